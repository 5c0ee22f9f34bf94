/** The boundary cases of the promises 27 to 33: texts, taking changes back, saving and restoring. */
final class TextsBounds {
    private TextsBounds() {
    }

    static void test() {
        feed();
        read();
        write();
        text();
        undo();
        save();
        restore();
    }

    private static SampleBench fed(int count) {
        SampleBench bench = new SampleBench();
        Check.feed(bench, "0".repeat(count));
        return bench;
    }

    private static void feed() {
        Document.section("Promise 27: feed");
        Document.isPlain("Appends a character to the input buffer.");
        Document.says("`int feed(char letter) throws IllegalStateException`", () -> {
            Bounds.refused(Benches.STATE, () -> fed(120), "a full buffer", b -> b.feed('0'));
            Bounds.answers(120, () -> fed(119), "the last place", b -> b.feed('0'));
        });
        Document.says("- `letter`: any character", () -> {
            for (char letter : "\u0000\n /09:x~\u007f\u0080\u00ff\u0100\ud800\udfff\ufffe\uffff".toCharArray()) {
                SampleBench bench = new SampleBench();
                Check.feed(bench, "0/1");
                Check.answers(4, "feed of " + (int) letter, () -> bench.feed(letter));
                boolean goesOn = letter == '/' || letter == '0' || letter == '9';
                Check.answers(goesOn ? -104 : -103, "read of it", () -> bench.read(0));
            }
        });
        Document.says("Returns the number of characters in the buffer.", () -> {
            for (int count : new int[] {0, 1, 59, 60, 61, 118, 119}) {
                Bounds.answers(count + 1, () -> fed(count), "feed after " + count, b -> b.feed('x'));
            }
        });
        Document.says("Throws `IllegalStateException` if the buffer already holds 120 characters", () -> {
            Bounds.refused(Benches.STATE, () -> fed(120), "the 121st", b -> b.feed((char) 0));
            Bounds.refused(Benches.STATE, () -> fed(120), "the 121st", b -> b.feed((char) 65535));
            SampleBench bench = fed(120);
            Check.answers("IllegalStateException", "the 121st", () -> bench.feed('0'));
            Check.answers("IllegalStateException", "the 121st again", () -> bench.feed('0'));
            Check.answers(-110, "read", () -> bench.read(0));
            Check.answers(1, "feed after read", () -> bench.feed('0'));
            for (int count = 2; count <= 120; count++) {
                bench.feed('-');
            }
            Check.answers("IllegalStateException", "the 121st after read", () -> bench.feed('0'));
        });
    }

    /** What reading a text answers in slot 0 of a rich bench. */
    private static void reads(Object due, String text) {
        Bounds.answers(due, () -> Bounds.rich(text), "read of " + text, b -> b.read(0));
    }

    /** The exception comes, and all but the buffer is as if nothing had been fed. */
    private static void readRefused(Class<? extends RuntimeException> due, String text) {
        reads(due.getSimpleName(), text);
        Check.same("all but the buffer after " + text, Bounds.sameLooks(() -> {
            SampleBench bench = Bounds.rich(text);
            Check.outcome(() -> bench.read(0));
            return bench;
        }, () -> Bounds.rich("")), true);
    }

    private static void read() {
        Document.section("Promise 28: read");
        Document.isPlain("- `slot`: the slot");
        Document.says("`int read(int slot) throws IndexOutOfBoundsException, IllegalArgumentException, "
                + "IllegalStateException`", () -> {
            Bounds.answers("IndexOutOfBoundsException", () -> Bounds.rich("x"), "no slot, an error", b -> b.read(4));
            Bounds.answers("IndexOutOfBoundsException", () -> Bounds.rich("4/1/1/0"), "no slot, no kind",
                    b -> b.read(-1));
            Bounds.answers("IndexOutOfBoundsException", () -> Bounds.rich("0/1/1/1;1,1,1,1,1;2,1,1,1,1"),
                    "no slot, no room", b -> b.read(4));
            readRefused(Benches.ARGUMENT, "0/1/1/1;1,1,1,1,1;2,1,1,1,1000");
            readRefused(Benches.ARGUMENT, "4/1/1/1;1,1,1,1,1;2,1,1,1,1");
            readRefused(Benches.ARGUMENT, "0/1/1/1;2,1,1,1,1;2,1,1,1,1");
        });
        Document.says("Parses the input buffer as a summary, which is put into a slot, in place of what is there.",
                () -> {
            for (int slot = 0; slot < 4; slot++) {
                SampleBench bench = Bounds.rich("1/12/-9/40;0,0,0,1,-999;999999,99,3,99,999");
                int at = slot;
                Check.answers(2, "read into slot " + slot, () -> bench.read(at));
                Check.same("the text", Benches.written(bench, slot), "1/12/-9/40;0,0,0,1,-999;999999,99,3,99,999");
                Check.same("the quotas", Benches.quotas(bench, slot), "12 12 12 12");
            }
            SampleBench none = Bounds.rich("0/1/0/0");
            none.read(0);
            Check.same("no items", Benches.written(none, 0), "0/1/0/0");
        });
        Document.says("The next item that is offered gets a number that is greater than all of the text, if its number "
                + "would not be.", () -> {
            // The next number of a rich bench is 11.
            int[][] due = {{0, 11}, {9, 11}, {10, 11}, {11, 12}, {12, 13}, {999999, 1000000}};
            for (int[] d : due) {
                SampleBench bench = Bounds.rich("0/1/0/0;" + d[0] + ",1,1,1,1");
                bench.read(3);
                Check.answers(d[1], "the number after " + d[0], () -> bench.offer(0, 1, 1, 1, 1));
            }
            SampleBench past = Bounds.rich("0/1/0/0;999999,1,1,1,1");
            past.read(3);
            past.offer(3, 1, 1, 1, 1);
            String text = Benches.written(past, 3);
            Check.same("a number past the range of texts", text, "0/1/0/0;999999,1,1,1,1;1000000,1,1,1,1");
            Check.feed(past, text);
            Check.answers("IllegalArgumentException", "read of such a number", () -> past.read(0));
            Check.answers(1000001, "the number after it", () -> past.offer(3, 1, 1, 1, 1));
        });
        Document.says("The buffer is empty afterwards, also after an error or an exception, but not if there is no "
                + "such slot.", () -> {
            bufferAfter(1, "0/1/0/0", 0);
            bufferAfter(1, "0/1/0/", 0);
            bufferAfter(1, "", 0);
            bufferAfter(1, "4/1/0/0", 0);
            bufferAfter(1, "0/1/0/1;1,1,1,1,1;2,1,1,1,1", 0);
            bufferAfter(8, "0/1/0/0", 4);
            bufferAfter(8, "0/1/0/0", -1);
            bufferAfter(7, "0/1/0/", 4);
            bufferAfter(8, "4/1/0/0", Bounds.MOST);
            SampleBench bench = Bounds.rich("0/1/0/0");
            Check.answers("IndexOutOfBoundsException", "read into no slot", () -> bench.read(4));
            Check.answers(0, "the same text into a slot", () -> bench.read(3));
        });
        Document.says("Returns the number of items; -100 minus the error position after a syntax error.", () -> {
            reads(0, "0/1/0/0");
            reads(1, "0/1/0/0;1,1,1,1,1");
            reads(11, elevenItems(0));
            reads(-100, "");
            reads(-100, "x");
            reads(-107, "0/1/0/0x");
            reads(-108, "0/1/0/0;");
            reads(-219, elevenItems(0) + "x");
            reads(-220, elevenItems(0) + ";");
            reads(-220, items(0, 10) + ";10,10,10,10,");
            // The most numbers that a buffer holds: 59 make eleven items, and 60 none more.
            reads("IllegalArgumentException", items(0, 10) + ";9,1,1,1,1");
            reads(-218, items(0, 10) + ";9,1,1,1,1;");
            reads(-219, items(0, 10) + ";9,1,1,1,1;1");
            reads(-220, items(0, 10) + ";9,1,1,1,1;1,");
            reads(-219, items(0, 10) + ";9,1,1,1,1;1;");
        });
        Document.says(Document.NO_SLOT, () -> Bounds.noSuchSlot((b, slot) -> b.read(slot)));
        Document.says("Throws `IllegalArgumentException` if the text is correct, and a number is out of range, for the "
                + "seed that of ints and for a number of an item 0 to 999999, or the numbers of the items do not "
                + "increase", TextsBounds::rangesOfTexts);
        Document.says("Throws `IllegalStateException` if there are more than 60 items, or more than the span if it is "
                + "not 0", () -> {
            // A buffer of 120 characters has no room for more than 11 items, so that 60 are out of reach.
            reads(11, elevenItems(0));
            reads(11, elevenItems(40));
            for (int span = 1; span < 9; span++) {
                reads(span, items(span, span));
                readRefused(Benches.STATE, items(span, span + 1));
                reads(span - 1, items(span, span - 1));
            }
            readRefused(Benches.STATE, "0/1/0/0009;" + items(0, 10).substring(8));
        });
    }

    private static void bufferAfter(int due, String text, int slot) {
        SampleBench bench = Bounds.rich(text);
        Check.outcome(() -> bench.read(slot));
        Check.answers(due, "feed after read of " + text + " into " + slot, () -> bench.feed('0'));
    }

    private static String items(int span, int count) {
        StringBuilder text = new StringBuilder("0/1/0/").append(span);
        for (int i = 0; i < count; i++) {
            text.append(";").append(i).append(",1,1,1,1");
        }
        return text.toString();
    }

    /** A text of 119 characters where the span is a digit, and of 120 with 40. */
    private static String elevenItems(int span) {
        return items(span, 10) + ";010,1,1,1,1";
    }

    private static void rangesOfTexts() {
        String[] heads = {"-1/1/0/0", "4/1/0/0", "0/0/0/0", "0/13/0/0", "0/-1/0/0", "0/1/2147483648/0",
            "0/1/-2147483649/0", "0/1/9999999999/0", "0/1/-9999999999/0", "0/1/4294967296/0", "0/1/0/-1", "0/1/0/41",
            "4294967296/1/0/0", "0/4294967297/0/0", "0/1/0/4294967296"};
        for (String head : heads) {
            readRefused(Benches.ARGUMENT, head);
        }
        String[] items = {"-1,1,1,1,1", "1000000,1,1,1,1", "4294967297,1,1,1,1", "1,-1,1,1,1", "1,100,1,1,1",
            "1,1,-1,1,1", "1,1,4,1,1", "1,1,1,0,1", "1,1,1,100,1", "1,1,1,-1,1", "1,1,1,1,-1000", "1,1,1,1,1000",
            "1,4294967297,1,1,1", "1,1,1,4294967297,1", "1,1,1,1,-4294967295", "1,1,1,1,1;1,1,1,1,1",
            "2,1,1,1,1;1,1,1,1,1", "0,1,1,1,1;0,1,1,1,1", "1,1,1,1,1;3,1,1,1,1;2,1,1,1,1",
            "1,1,1,1,1;2,1,1,1,1;2,1,1,1,1",
            "1,1,1,1,1;2,100,1,1,1", "1,1,1,1,1;1000000,1,1,1,1"};
        for (String item : items) {
            readRefused(Benches.ARGUMENT, "0/1/0/0;" + item);
        }
        reads(0, "0/1/0/0");
        reads(0, "3/12/2147483647/40");
        reads(0, "3/12/-2147483648/40");
        reads(1, "0/1/0/0;0,0,0,1,-999");
        reads(1, "0/1/0/0;999999,99,3,99,999");
        reads(2, "0/1/0/0;0,1,1,1,1;1,1,1,1,1");
        reads(2, "0/1/0/0;999998,1,1,1,1;999999,1,1,1,1");
        reads(-107, "4/1/0/0x");
        reads(-117, "0/13/0/41;1000000");
    }

    private static void write() {
        Document.section("Promise 29: write");
        Document.isPlain("- `slot`: the slot");
        Document.says("`int write(int slot) throws IndexOutOfBoundsException, IllegalStateException`", () -> {
            Bounds.refused(Benches.INDEX, SampleBench::new, "no slot, all are empty", b -> b.write(4));
            Bounds.answers(7, Bounds::rich, "nothing is wrong", b -> b.write(2));
        });
        Document.says("Writes a summary as a text, which replaces the earlier one.", () -> {
            SampleBench bench = Bounds.rich();
            bench.write(0);
            Check.answers('9', "the last character of the longer one", () -> bench.text(bench.write(0) - 4));
            bench.write(2);
            Check.same("a shorter one", Check.textOf(bench), "3/5/7/0");
            bench.write(1);
            Check.same("a longer one", Check.textOf(bench), "2/4/7/2;9,26,0,51,-94;10,11,3,63,271");
            Check.answers("IllegalStateException", "a refused one", () -> bench.write(3));
            Check.same("it replaces none", Check.textOf(bench).length(), 36);
        });
        Document.says("Returns the length of the text.", () -> {
            Bounds.answers(7, () -> Benches.read("0/1/0/0"), "the shortest", b -> b.write(0));
            Bounds.answers(19, SampleBench::new, "the longest without items", b -> {
                b.define(0, 0, 12, Bounds.LEAST, 40);
                return b.write(0);
            });
            Bounds.answers(9 + 14 * 60 + 110, () -> longest(0), "60 items", b -> b.write(0));
            Bounds.answers(18 + 21 * 59 + 20, () -> longest(999999), "the longest", b -> b.write(0));
            SampleBench bench = longest(999999);
            bench.write(0);
            Check.same("its end", "" + bench.text(1274) + bench.text(1275) + bench.text(1276), "999");
            Check.answers("IndexOutOfBoundsException", "after its end", () -> bench.text(1277));
        });
        Document.says(Document.NO_SLOT, () -> Bounds.noSuchSlot((b, slot) -> b.write(slot)));
        Document.says(Document.EMPTY, () -> Bounds.emptySlot((b, slot) -> b.write(slot)));
    }

    /** Sixty items with the greatest parts, of which the first one has this number. */
    private static SampleBench longest(int number) {
        String head = number == 0 ? "3/12/-7/0;" : "3/12/-2147483648/0;";
        SampleBench bench = Benches.read(head + number + ",99,3,99,-999");
        for (int i = 1; i < 60; i++) {
            bench.offer(0, 99, 3, 99, -999);
        }
        return bench;
    }

    private static void text() {
        Document.section("Promise 30: text");
        Document.isPlain("Returns the character.");
        Document.says("`char text(int i) throws IndexOutOfBoundsException`", () -> {
            Bounds.refused(Benches.INDEX, SampleBench::new, "no text", b -> b.text(0));
            Bounds.answers('2', Bounds::rich, "a text", b -> b.text(0));
        });
        Document.says("Returns a character of the text that was written last, which is empty at first.", () -> {
            for (int i : new int[] {-1, 0, 1}) {
                Bounds.refused(Benches.INDEX, SampleBench::new, "at first, " + i, b -> b.text(i));
                Bounds.refused(Benches.INDEX, () -> Bounds.drawn(0, 3, 0, 9), "before write, " + i, b -> b.text(i));
            }
            SampleBench bench = Bounds.rich();
            bench.drop(1);
            bench.undo();
            bench.undo();
            bench.restore();
            bench.read(0);
            Check.same("it stays when the slots change", Check.textOf(bench), "2/4/7/2;9,26,0,51,-94;10,11,3,63,271");
        });
        Document.says("- `i`: the index, from 0", () -> {
            Bounds.answers('2', Bounds::rich, "the first", b -> b.text(0));
            Bounds.answers('/', Bounds::rich, "the second", b -> b.text(1));
            Bounds.answers('1', Bounds::rich, "the last", b -> b.text(35));
        });
        Document.says("Throws `IndexOutOfBoundsException` if there is no such index", () -> {
            Bounds.outside(Benches.INDEX, Bounds::rich, "index", 0, 35, (b, i) -> b.text(i));
            SampleBench bench = Bounds.rich();
            bench.write(0);
            bench.write(2);
            Check.answers("IndexOutOfBoundsException", "an index of the longer one", () -> bench.text(7));
            Check.answers('0', "the last index", () -> bench.text(6));
        });
    }

    private static void undo() {
        Document.section("Promise 31: undo");
        Document.says("`int undo() throws IllegalStateException`", () -> {
            Bounds.refused(Benches.STATE, SampleBench::new, "no change", SampleBench::undo);
            Bounds.answers(0, () -> Bounds.noItems(0), "one change", SampleBench::undo);
        });
        Document.says("Takes back the latest change that was not taken back: a successful call of define, drop, offer, "
                + "offerDrawn, setQuota, allocate, merge, copy or read.", TextsBounds::takenBack);
        Document.says("All slots and the number that the next item gets become as they were.", () -> {
            for (Bounds.Call change : changes()) {
                SampleBench bench = withText();
                change.of(bench);
                bench.undo();
                Check.same("all slots", Check.seen(bench), Check.seen(withText()));
                Check.answers(11, "the next number", () -> bench.offer(0, 1, 1, 1, 1));
            }
        });
        Document.says("At most 10 changes can be taken back.", () -> {
            for (int changes : new int[] {1, 9, 10, 11, 12, 20, 21, 30}) {
                SampleBench bench = new SampleBench();
                for (int i = 0; i < changes; i++) {
                    bench.define(i % 4, 0, 1, i, 0);
                }
                int taken = 0;
                for (int i = 0; i < 40; i++) {
                    taken += Check.outcome(bench::undo) instanceof Integer ? 1 : 0;
                }
                Check.same("taken back of " + changes, taken, Math.min(changes, 10));
            }
        });
        Document.says("Returns the number of changes that can still be taken back.", () -> {
            SampleBench bench = Bounds.rich();
            for (int left = 9; left >= 0; left--) {
                Check.answers(left, "undo", bench::undo);
            }
            bench.define(0, 0, 1, 1, 0);
            bench.define(0, 0, 1, 2, 0);
            Check.answers(1, "undo of the second of two", bench::undo);
            bench.define(0, 0, 1, 3, 0);
            Check.answers(1, "undo of the second of two again", bench::undo);
            Check.answers(0, "undo of the first", bench::undo);
        });
        Document.says("Throws `IllegalStateException` if there is none", () -> {
            Bounds.refused(Benches.STATE, SampleBench::new, "at first", SampleBench::undo);
            Bounds.refused(Benches.STATE, TextsBounds::undone, "after all ten", SampleBench::undo);
            Bounds.refused(Benches.STATE, () -> {
                SampleBench bench = Bounds.rich();
                bench.restore();
                return bench;
            }, "after restore", SampleBench::undo);
            Bounds.refused(Benches.STATE, () -> {
                SampleBench bench = new SampleBench();
                Check.feed(bench, "0/1/0/x");
                bench.read(0);
                bench.save();
                Check.outcome(() -> bench.define(0, 4, 1, 1, 0));
                Check.outcome(() -> bench.offerDrawn(0, 1, 0));
                Check.outcome(() -> bench.write(0));
                return bench;
            }, "after calls that are no changes", SampleBench::undo);
        });
    }

    private static SampleBench withText() {
        return Bounds.rich("0/1/1/0;500,1,1,1,1");
    }

    private static Bounds.Call[] changes() {
        return new Bounds.Call[] {
            b -> b.define(0, 0, 1, 1, 0), b -> b.define(3, 0, 1, 1, 0), b -> b.drop(0), b -> b.drop(3),
            b -> b.offer(0, 1, 1, 1, 1), b -> b.offer(1, 1, 1, 1, 1), b -> b.offerDrawn(0, 1, 52),
            b -> b.offerDrawn(1, 1, 60), b -> b.offerDrawn(2, 1, 0), b -> b.setQuota(0, 0, 3), b -> b.setQuota(1, 3, 0),
            b -> b.allocate(0, 12, true), b -> b.merge(0, 0), b -> b.copy(0, 3), b -> b.copy(1, 0), b -> b.copy(2, 2),
            b -> b.read(0), b -> b.read(3),
        };
    }

    private static Bounds.Call[] questions() {
        return new Bounds.Call[] {
            b -> b.summary(0, 5), b -> b.quota(0, 1), b -> b.kept(0, 7, 5), b -> b.sampled(0, 2, 4), b -> b.mix(0, 0),
            b -> b.commonKey(0), b -> b.reason(0, 1), b -> b.needed(0, 1), b -> b.margin(0, 0),
            b -> b.stratum(0, 3, 3), b -> b.estimateKeys(0, 0, 9, true), b -> b.estimate(0, 1), b -> b.truth(0, 2),
            b -> b.quantile(0, 500), b -> b.resampled(0, 7, 1000), b -> b.distance(0, 1), b -> b.common(1, 0),
            b -> b.write(1), b -> b.text(0),
        };
    }

    private static void takenBack() {
        for (Bounds.Call change : changes()) {
            SampleBench bench = withText();
            change.of(bench);
            Check.answers(9, "undo of the change", bench::undo);
            Check.same("the slots before it", Check.seen(bench), Check.seen(withText()));
            Check.answers(8, "undo of the define before it", bench::undo);
            Check.answers("IllegalStateException", "slot 2 then", () -> bench.summary(2, 0));
        }
        for (Bounds.Call question : questions()) {
            Bounds.leaves(TextsBounds::withText, "a question, which is no change", question);
        }
        SampleBench merged = Bounds.drawn(0, 3, 0, 5);
        merged.define(1, 0, 3, 7, 2);
        merged.merge(0, 1);
        Check.same("merged", Benches.kept(merged, 1, 0), "3 4");
        Check.answers(3, "undo of merge", merged::undo);
        Check.same("the summary before merge", Benches.written(merged, 1), "0/3/7/2");
        SampleBench latest = new SampleBench();
        latest.define(0, 0, 1, 1, 0);
        latest.define(0, 0, 1, 2, 0);
        latest.undo();
        latest.define(0, 0, 1, 3, 0);
        latest.undo();
        Check.same("the latest that was not taken back", latest.summary(0, 2), 1);
        latest.undo();
        Check.answers("IllegalStateException", "the first one", () -> latest.summary(0, 2));
    }

    private static SampleBench undone() {
        SampleBench bench = Bounds.rich();
        for (int i = 0; i < 10; i++) {
            bench.undo();
        }
        return bench;
    }

    private static void save() {
        Document.section("Promise 32: save");
        Document.says("`int save()`", () -> {
            Bounds.answers(0, SampleBench::new, "nothing", SampleBench::save);
            Bounds.answers(1, () -> Bounds.drawn(0, 3, 0, 60), "a full list", SampleBench::save);
            Bounds.leaves(() -> {
                SampleBench bench = Bounds.rich();
                bench.save();
                return bench;
            }, "saving the same again", SampleBench::save);
        });
        Document.says("Saves all slots and the number that the next item gets, in place of what was saved before.",
                () -> {
            SampleBench bench = Bounds.rich();
            bench.save();
            for (int slot = 0; slot < 4; slot++) {
                bench.define(slot, 0, 1, 1, 1);
                bench.offerDrawn(slot, 1, 60);
            }
            bench.restore();
            Check.same("all slots", Check.seen(bench), Check.seen(Bounds.rich()));
            Check.answers(11, "the next number", () -> bench.offer(0, 1, 1, 1, 1));
            SampleBench empty = Bounds.rich();
            for (int slot = 0; slot < 4; slot++) {
                empty.drop(slot);
            }
            empty.save();
            empty.define(0, 0, 1, 1, 0);
            Check.answers(0, "restore of empty slots in place of what was saved before", empty::restore);
            empty.define(0, 0, 1, 1, 0);
            Check.answers(11, "the next number", () -> empty.offer(0, 1, 1, 1, 1));
        });
        Document.says("Returns the number of slots that are not empty.", () -> {
            SampleBench bench = new SampleBench();
            for (int slot = 0; slot < 4; slot++) {
                int filled = slot;
                Check.answers(filled, filled + " slots", bench::save);
                bench.define(slot, 0, 1, 1, 0);
            }
            Check.answers(4, "four slots", bench::save);
            bench.drop(1);
            Check.answers(3, "three slots", bench::save);
        });
    }

    private static void restore() {
        Document.section("Promise 33: restore");
        Document.says("`int restore() throws IllegalStateException`", () -> {
            Bounds.refused(Benches.STATE, SampleBench::new, "nothing was saved", SampleBench::restore);
            Bounds.answers(0, SampleBench::new, "empty slots were saved", b -> b.save() + b.restore());
        });
        Document.says("Restores what was saved, which stays saved.", () -> {
            SampleBench bench = Bounds.rich();
            for (int times = 0; times < 3; times++) {
                Check.answers(1, "restore", bench::restore);
                Check.same("the eight items", Benches.kept(bench, 0, 0), "0 1 2 3 4 5 6 7");
                Check.answers("IllegalStateException", "slot 1", () -> bench.summary(1, 0));
                Check.answers(8, "the next number", () -> bench.offer(0, 1, 1, 1, 1));
                bench.setQuota(0, 0, 0);
                bench.define(1, 0, 1, 1, 0);
            }
            bench.restore();
            Check.same("the quotas", Benches.quotas(bench, 0), "3 3 3 3");
            Check.answers(8, "the buffer stays", () -> bench.feed('0'));
        });
        Document.says("No change can be taken back afterwards.", () -> {
            SampleBench bench = Bounds.rich();
            bench.restore();
            Check.answers("IllegalStateException", "undo", bench::undo);
            bench.define(0, 0, 1, 1, 0);
            bench.define(0, 0, 1, 2, 0);
            Check.answers(1, "undo of the second of two", bench::undo);
            Check.answers(0, "undo of the first of two", bench::undo);
            Check.answers("IllegalStateException", "undo of no more", bench::undo);
            Check.same("the eight items", Benches.kept(bench, 0, 0), "0 1 2 3 4 5 6 7");
        });
        Document.says("Returns the number of slots that are not empty.", () -> {
            for (int filled = 0; filled <= 4; filled++) {
                SampleBench bench = new SampleBench();
                for (int slot = 0; slot < filled; slot++) {
                    bench.define(slot, 0, 1, 1, 0);
                }
                bench.save();
                bench.define(3, 0, 1, 1, 0);
                bench.drop(0);
                Check.answers(filled, filled + " slots", bench::restore);
            }
        });
        Document.says("Throws `IllegalStateException` if nothing was saved", () -> {
            Bounds.refused(Benches.STATE, SampleBench::new, "at first", SampleBench::restore);
            Bounds.refused(Benches.STATE, () -> Bounds.drawn(0, 3, 0, 8), "after changes", SampleBench::restore);
            Bounds.answers(1, Bounds::rich, "after save", SampleBench::restore);
        });
    }
}
