/** Promises 27 to 30: the input buffer, reading it, writing and the written text. */
public final class TextsTest {
    private static int readOf(SampleBench bench, int slot, String text) {
        Check.feed(bench, text);
        return bench.read(slot);
    }

    private static void feed() {
        SampleBench bench = new SampleBench();
        for (int k = 1; k <= 120; k++) {
            int count = k;
            Check.answers(count, "feed " + k, () -> bench.feed((char) (count * 541)));
        }
        Check.refuses(Benches.STATE, bench, "feed of the 121st character", () -> bench.feed('1'));
        Check.refuses(Benches.STATE, bench, "feed of the 122nd character", () -> bench.feed((char) 65535));
        Check.answers(-100, "read of what was fed", () -> bench.read(0));
        Check.answers(1, "feed to the empty buffer", () -> bench.feed((char) 0));
        bench.read(0);
        String zeros = "0000000000";
        String longest = "000000000" + "3/0000000001/0000000000/000000000" + "0;1,1,1,1,1;2,1,1,1,1;3,1,1,1,1"
                + ";4,1,1,1,1;5,1,1,1,1;6,1,1,1,1;" + zeros.substring(4) + "07,1,1,1,1";
        Check.same("the longest text", longest.length(), 120);
        Check.answers(7, "read of 120 characters", () -> readOf(bench, 0, longest));
    }

    private static void readErrors() {
        Object[][] due = {
            {"", 0}, {"x", 0}, {"/", 0}, {" 0", 0}, {"-", 1}, {"--1", 1}, {"-/", 1}, {"+1", 0}, {"0", 1}, {"0;", 1},
            {"0,1", 1}, {"0/", 2}, {"0//", 2}, {"0/1", 3}, {"0/1/2", 5}, {"0/1/2/", 6}, {"0/1/2/x", 6}, {"0/1/2/-", 7},
            {"0/1/2/0/", 7}, {"0/1/2/0,", 7}, {"0/1/2/0;", 8}, {"0/1/2/0;;", 8}, {"0/1/2/0;1", 9}, {"0/1/2/0;1;", 9},
            {"0/1/2/0;1/", 9}, {"0/1/2/0;1,", 10}, {"0/1/2/0;1,1,1,1", 15}, {"0/1/2/0;1,1,1,1,", 16},
            {"0/1/2/0;1,1,1,1,1,", 17}, {"0/1/2/0;1,1,1,1,1;", 18}, {"0/1/2/0;1,1,1,1,1/", 17},
            {"0/1/2/0;1,1,1,1,1;2,2", 21}, {"12345678901", 10}, {"-12345678901", 11}, {"1234567890", 10},
            {"0/1/2/0;1,1,1,1,00000000001", 26}, {"0/1/2/0 ", 7}, {"0/1/2/0\n", 7}, {"0/1/2/1-", 7}, {"0/1-", 3},
            {"9/99/9/99;x", 10}, {"\u0660/1/2/0", 0}, {"0/1/2/0\u00e9", 7}, {"0/1/2/0;1,1,1,1,-;", 17},
            {"0/1/2/:", 6}, {"0/1/2/.", 6},
        };
        for (Object[] d : due) {
            SampleBench bench = Benches.eight(0, 3);
            Check.answers(-100 - (Integer) d[1], "read of " + d[0], () -> readOf(bench, 0, (String) d[0]));
            Check.same("the state after " + d[0], Check.seen(bench), Check.seen(Benches.eight(0, 3)));
            Check.answers(1, "the buffer after " + d[0], () -> bench.feed('0'));
            Check.answers(8, "errors are no changes", bench::undo);
        }
    }

    private static void readRanges() {
        String[] wrong = {
            "4/1/2/0", "-1/1/2/0", "0/0/2/0", "0/13/2/0", "0/1/2147483648/0", "0/1/-2147483649/0", "0/1/9999999999/0",
            "0/1/-9999999999/0", "0/1/2/41", "0/1/2/-1", "0/1/2/4294967296", "4294967296/1/2/0", "0/1/2/0;-1,1,1,1,1",
            "0/1/2/0;1000000,1,1,1,1", "0/1/2/0;1,-1,1,1,1", "0/1/2/0;1,100,1,1,1", "0/1/2/0;1,1,-1,1,1",
            "0/1/2/0;1,1,4,1,1", "0/1/2/0;1,1,1,0,1", "0/1/2/0;1,1,1,100,1", "0/1/2/0;1,1,1,1,-1000",
            "0/1/2/0;1,1,1,1,1000", "0/1/2/0;4294967297,1,1,1,1", "0/1/2/0;1,1,1,1,1;1,1,1,1,1",
            "0/1/2/0;2,1,1,1,1;1,1,1,1,1", "0/1/2/0;1,1,1,1,1;3,1,1,1,1;2,1,1,1,1", "0/1/2/1;1,1,1,1,1;1,1,1,1,1",
            "0/1/2/1;1,1,1,1,1;2,1,1,1,1000", "0/1/2/0;1,1,1,1,1;2,1,1,0,1",
        };
        for (String text : wrong) {
            readRefuses(Benches.ARGUMENT, text);
        }
        readRefuses(Benches.STATE, "0/1/2/1;1,1,1,1,1;2,1,1,1,1");
        readRefuses(Benches.STATE, "3/1/2/2;1,1,1,1,1;2,1,1,1,1;3,1,1,1,1");
    }

    private static void readRefuses(Class<? extends RuntimeException> due, String text) {
        SampleBench bench = Benches.eight(0, 3);
        Check.feed(bench, text);
        Check.refuses(due, bench, "read of " + text, () -> bench.read(0));
        Check.answers(1, "the buffer after " + text, () -> bench.feed('0'));
        Check.answers(8, "a refused text uses no number", () -> bench.offer(0, 1, 1, 1, 1));
    }

    private static void read() {
        String[] right = {
            "0/1/0/0", "3/12/2147483647/40", "2/7/-2147483648/1;999999,99,3,99,999", "1/1/5/0;0,0,0,1,-999",
            "0/3/-5/2;1,1,1,1,1;9,2,2,2,2", "0/3/7/0;0,0,0,1,0;1,1,1,1,-1;10,2,2,2,2;100,3,3,3,3;1000,4,0,4,4",
        };
        for (String text : right) {
            SampleBench bench = Benches.read(text);
            Check.same("text that was read", Benches.written(bench, 0), text);
            int size = bench.summary(0, 1);
            Check.same("quotas after " + text, Benches.quotas(bench, 0), size + " " + size + " " + size + " " + size);
        }
        Check.same("zeros and -0", Benches.written(
                Benches.read("-0/0000000012/-007/-00;000,-0,003,0099,-0000000012;01,00,0,01,-0"), 0),
                "0/12/-7/0;0,0,3,99,-12;1,0,0,1,0");
        String most = "0/1/0/0";
        for (int i = 0; i < 10; i++) {
            most += ";" + i + ",0,0,1,0";
        }
        Check.same("eleven items", Benches.read(most + ";10,0,0,1,0").summary(0, 4), 11);
        SampleBench cut = new SampleBench();
        Check.same("an item too early at an end", readOf(cut, 0, most + ";1"), -100 - 109);
        Check.same("an item too early at its end", readOf(cut, 0, most + ";10,0,0,1"), -100 - 116);
        String items = most.replace("0/1/0/0;", "0/1/0/0;0,0,0,1,0;");
        Check.same("an item too early at 120", readOf(cut, 0, items + ";1,"), -100 - 120);
        SampleBench bench = Benches.eight(0, 3);
        bench.setQuota(0, 0, 9);
        Check.answers(2, "read in place of a summary", () -> readOf(bench, 0, "1/4/1/0;3,1,1,1,1;5,2,2,2,2"));
        Check.same("the quotas then", Benches.quotas(bench, 0), "4 4 4 4");
        Check.answers(8, "numbers that are greater stay", () -> bench.offer(0, 1, 1, 1, 1));
        readOf(bench, 1, "1/4/1/0;8,1,1,1,1");
        Check.answers(9, "a number that is the next one", () -> bench.offer(0, 1, 1, 1, 1));
        readOf(bench, 1, "1/4/1/0;10,1,1,1,1");
        Check.answers(11, "the next number after the greatest", () -> bench.offer(0, 1, 1, 1, 1));
        readOf(bench, 1, "1/4/1/0;500,1,1,1,1;999999,1,1,1,1");
        Check.answers(1000000, "the number after the last one", () -> bench.offer(1, 1, 1, 1, 1));
        Check.same("a number that can't be read", Benches.written(bench, 1),
                "1/4/1/0;500,1,1,1,1;999999,1,1,1,1;1000000,1,1,1,1");
        Check.feed(bench, "0/1/0/0");
        for (int slot : Benches.WRONG_SLOTS) {
            Check.refuses(Benches.INDEX, bench, "read into no slot", () -> bench.read(slot));
        }
        Check.answers(8, "the buffer stays after this", () -> bench.feed(';'));
        Check.answers(-108, "read of the buffer", () -> bench.read(0));
        Check.answers(0, "read of no items", () -> readOf(bench, 3, "0/1/0/0"));
        Check.answers(1000001, "no items, no numbers", () -> bench.offer(3, 1, 1, 1, 1));
        Check.answers(8, "undo after 12 changes", () -> {
            bench.undo();
            return bench.undo();
        });
        Check.refuses(Benches.STATE, bench, "what the undone read filled", () -> bench.summary(3, 0));
    }

    private static void write() {
        SampleBench bench = Benches.eight(1, 12);
        bench.define(1, 0, 10, -2147483648, 40);
        String text = "0/10/-2147483648/40";
        Check.answers(text.length(), "write of no items", () -> bench.write(1));
        Check.same("the text", Check.textOf(bench), text);
        String eight = "1/12/7/0;0,5,0,10,100;1,5,1,20,-50;2,9,2,30,7;3,9,3,40,8;4,20,0,50,999;5,30,1,60,-999;"
                + "6,99,2,70,0;7,0,3,99,-1";
        Check.answers(eight.length(), "write", () -> bench.write(0));
        Check.same("the text", Check.textOf(bench), eight);
        Check.answers(text.length(), "write of a shorter text", () -> bench.write(1));
        Check.same("it replaces the longer one", Check.textOf(bench), text);
        Check.refuses(Benches.STATE, bench, "write of an empty slot", () -> bench.write(2));
        for (int slot : Benches.WRONG_SLOTS) {
            Check.refuses(Benches.INDEX, bench, "write of no slot", () -> bench.write(slot));
        }
        SampleBench longest = Benches.read("3/12/-2147483648/0;999999,99,3,99,-999");
        for (int i = 0; i < 59; i++) {
            longest.offer(0, 99, 3, 99, -999);
        }
        Check.answers(18 + 59 * 21 + 20, "the longest text", () -> longest.write(0));
        StringBuilder end = new StringBuilder();
        for (int i = 18 + 58 * 21 + 20; i < 18 + 59 * 21 + 20; i++) {
            end.append(longest.text(i));
        }
        Check.same("its end", end, ";1000058,99,3,99,-999");
    }

    private static void text() {
        SampleBench bench = new SampleBench();
        Check.refuses(Benches.INDEX, bench, "the empty text", () -> bench.text(0));
        bench.define(0, 3, 2, -1, 0);
        Check.refuses(Benches.INDEX, bench, "the text before write", () -> bench.text(0));
        bench.write(0);
        Check.answers('3', "the first character", () -> bench.text(0));
        Check.answers('-', "the character of index 4", () -> bench.text(4));
        Check.answers('0', "the last character", () -> bench.text(7));
        for (int i : new int[] {-1, 8, Integer.MIN_VALUE, Integer.MAX_VALUE}) {
            Check.refuses(Benches.INDEX, bench, "text " + i, () -> bench.text(i));
        }
        bench.drop(0);
        bench.undo();
        bench.undo();
        Check.same("the text stays after changes and undo", Check.textOf(bench), "3/2/-1/0");
        bench.save();
        bench.restore();
        Check.same("the text stays after restore", Check.textOf(bench), "3/2/-1/0");
    }

    public static void main(String[] args) {
        feed();
        readErrors();
        readRanges();
        read();
        write();
        text();
        Check.end();
    }
}
