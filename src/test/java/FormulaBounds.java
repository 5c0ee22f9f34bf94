/** The boundary cases that the description names from its rounding on. */
final class FormulaBounds {
    private static final String SIGNS = "0189-+/;,.: x\u0000\u00b2\u0660\uff10\uffff";

    private FormulaBounds() {
    }

    static void test() {
        Document.section("Description");
        rounding();
        counts();
        totals();
        texts();
        details();
    }

    private static String estimates(SampleBench bench) {
        return bench.estimate(0, 0) + " " + bench.estimate(0, 1) + " " + bench.estimate(0, 2);
    }

    // ---- rounding and estimates

    /** All items are kept in slot 0, and one of the sample has the value, so that the estimate is value * n / s. */
    private static long estimateOf(int value, int n, int s) {
        SampleBench bench = new SampleBench();
        bench.define(0, 0, s, 7, 0);
        for (int i = 0; i < n; i++) {
            bench.offer(0, 0, 0, 1, i == 0 ? value : 0);
        }
        return bench.estimate(0, 1);
    }

    private static void rounding() {
        Document.says("A quotient is rounded to the nearest integer, and halves are rounded upwards, that is, to the "
                + "greater one.", () -> {
            // 0.5, 1.5 and 2.5 as 13 / 12 of 6, 18 and 30, and what comes before and after them.
            int[][] due = {{0, 0}, {5, 5}, {6, 7}, {7, 8}, {17, 18}, {18, 20}, {19, 21}, {29, 31}, {30, 33}, {31, 34}};
            for (int[] d : due) {
                Check.same("13 / 12 of " + d[0], estimateOf(d[0], 13, 12), d[1]);
            }
            Check.same("9 / 2 of 1", estimateOf(1, 9, 2), 5);
            Check.same("4 / 3 of 1", estimateOf(1, 4, 3), 1);
            Check.same("4 / 3 of 2", estimateOf(2, 4, 3), 3);
        });
        Document.says("All rounding is to the nearest integer, halves to the greater one, also below 0.", () -> {
            int[][] due = {{-5, -5}, {-6, -6}, {-7, -8}, {-17, -18}, {-18, -19}, {-19, -21}, {-30, -32}, {-31, -34}};
            for (int[] d : due) {
                Check.same("13 / 12 of " + d[0], estimateOf(d[0], 13, 12), d[1]);
            }
            Check.same("9 / 2 of -1", estimateOf(-1, 9, 2), -4);
            Check.same("4 / 3 of -1", estimateOf(-1, 4, 3), -1);
            Check.same("4 / 3 of -2", estimateOf(-2, 4, 3), -3);
            Check.same("two strata with -4.5", estimates(Benches.read("2/2/7/0" + threeOf(0, 0, -3)
                    + threeOf(3, 1, -3))), "6 -8 6");
            Check.same("kind 1, two parts of -1.5", estimates(twoParts(-1, -1)), "3 -2 12");
            Check.same("kind 3, 5 / 2 of -1", estimates(Benches.eight(3, 2)), "5 -2 423");
        });
    }

    /** Three items of a stratum, of which the first and the last one have the lower mixes with the seed 7. */
    private static String threeOf(int number, int stratum, int value) {
        StringBuilder items = new StringBuilder();
        for (int i = number; i < number + 3; i++) {
            items.append(";").append(i).append(",0,").append(stratum).append(",1,").append(i == number ? value : 0);
        }
        return items.toString();
    }

    // The mix of 0 is 1073741824, so that the parts of the weight 4 with the limit's weight 3 are 3 / 2 of the values.
    private static SampleBench twoParts(int first, int second) {
        return Benches.read("1/2/-39848503/0;0,1,0,3,0;1,1,0,4," + first + ";2,1,0,4," + second);
    }

    private static void counts() {
        Document.isPlain("Let n be the number of kept items and s the number of items of the sample.");
        Document.says("An empty sample has the estimates 0, except that the estimated count of the kinds 0 to 2 is "
                + "always n.", () -> {
            for (int kind = 0; kind < 4; kind++) {
                Check.same("no items of kind " + kind, estimates(Bounds.noItems(kind)), "0 0 0");
                Check.same("keys of no items", Bounds.noItems(kind).estimateKeys(0, 0, 99, true), 0);
            }
            SampleBench empty = Bounds.stratified(0, 0, 0, 0);
            Check.same("quotas of 0", estimates(empty), "8 0 0");
            Check.same("keys of an empty sample", empty.estimateKeys(0, 0, 99, false), 0);
            for (int size = 1; size < 10; size++) {
                Check.same("kind 0", Benches.eight(0, size).estimate(0, 0), 8);
                Check.same("kind 1", Benches.eight(1, size).estimate(0, 0), 8);
                Check.same("kind 2", Benches.eight(2, size).estimate(0, 0), 8);
            }
        });
        Document.says("The estimated count of kind 3 is s if the sample is complete, and otherwise s * 2147483648 / t, "
                + "rounded, where t is the mix of the limit item.", () -> {
            Check.same("complete", Benches.eight(3, 6).estimate(0, 0), 6);
            Check.same("just not complete", Benches.eight(3, 5).estimate(0, 0), 6);
            Check.same("s = 1", Benches.eight(3, 1).estimate(0, 0), 4);
            countOf("a mix of 2147483648", "-1676833246/0;0,0,0,1,1;1,1,0,1,1", 2147483648L, 1);
            countOf("1.5000000003", "559841415/0;0,0,0,1,1;1,2,0,1,1", 1431655765, 2);
            countOf("1.4999999993", "-1336227421/0;0,0,0,1,1;1,5,0,1,1", 1431655766, 1);
            countOf("2.5000000006", "535895874/0;0,0,0,1,1;1,1,0,1,1", 858993459, 3);
            countOf("2.4999999977", "555006882/0;0,0,0,1,1;1,3,0,1,1", 858993460, 2);
            countOf("2301697.4", "-789956601/0;0,43,0,99,1;1,59,0,99,999", 933, 2301697);
        });
    }

    private static void countOf(String what, String text, long limit, long due) {
        SampleBench bench = Benches.read("3/1/" + text);
        Check.same(what + ", the limit's mix", bench.mix(0, 0), limit);
        Check.same(what + ", the count", bench.estimate(0, 0), due);
    }

    private static void totals() {
        Document.says("The estimated total, of values or of weights, is for kind 0 the total of the sample times n, "
                + "divided by s, rounded; for kind 2 the sum over all strata with items in the sample of the total of "
                + "these items times the number of kept items of the stratum, divided by the number of these items, "
                + "rounded for each stratum; for kind 3 the total of the sample times the estimated count, divided by "
                + "s, rounded.", FormulaBounds::totalsOfThreeKinds);
        Document.says("For kind 1, it is the sum over the items of the sample of their parts: the part of an item with "
                + "the weight w and the number v that is totalled, its value or its weight, is v if the sample is "
                + "complete or w * t is at least 2147483648 * u, and otherwise v * 2147483648 * u / (w * t), rounded, "
                + "where t and u are the mix and the weight of the limit item.", FormulaBounds::totalsOfKindOne);
        Document.says("For kind 3, an estimated total uses the estimated count as it is rounded.", () -> {
            // 169 * 5 / 2 where the count is 5.48, and 999 * 2301697 where it is 2301697.4.
            Check.same("a count that is rounded down", Benches.eight(3, 2).estimate(0, 2), 423);
            Check.same("a great count", Benches.read("3/1/-789956601/0;0,43,0,99,1;1,59,0,99,999").estimate(0, 1),
                    2299395303L);
            Check.same("a count that is rounded up", estimates(Benches.read("3/1/559841415/0;0,0,0,1,1;1,2,0,99,-999")),
                    "2 -1998 198");
            Check.same("a part of the keys", Benches.eight(3, 2).estimateKeys(0, 0, 0, true), 248);
        });
    }

    private static void totalsOfThreeKinds() {
        Check.same("kind 0, the least size", estimates(Benches.eight(0, 1)), "8 64 320");
        Check.same("kind 0, all but one", estimates(Benches.eight(0, 7)), "8 -1069 376");
        Check.same("kind 0, all", estimates(Benches.eight(0, 8)), "8 64 379");
        Check.same("kind 0, sixty of the greatest values", Benches.read("0/1/7/40;0,1,0,99,999;1,1,0,99,999")
                .estimate(0, 1), 1998);
        Check.same("kind 2, a stratum without items in the sample", estimates(Bounds.stratified(0, 1, 2, 0)),
                "8 -1991 220");
        Check.same("kind 2, all quotas 1", estimates(Bounds.stratified(1, 1, 1, 1)), "8 -1768 280");
        Check.same("kind 2, all items", estimates(Bounds.stratified(2, 2, 2, 2)), "8 64 379");
        Check.same("kind 2, two strata with 1.5", Benches.read("2/2/7/0" + threeOf(0, 0, 1) + threeOf(3, 1, 1))
                .estimate(0, 1), 4);
        Check.same("kind 2, strata without kept items", estimates(Benches.read("2/2/7/0" + threeOf(0, 3, 1))), "3 2 3");
        Check.same("kind 3, the least size", estimates(Benches.eight(3, 1)), "4 -4 396");
        Check.same("kind 3, all but one", estimates(Benches.eight(3, 5)), "6 119 347");
        Check.same("kind 3, all", estimates(Benches.eight(3, 6)), "6 106 319");
    }

    private static void totalsOfKindOne() {
        Check.same("complete", estimates(Benches.eight(1, 8)), "8 64 379");
        Check.same("all but one", estimates(Benches.eight(1, 7)), "8 304 378");
        Check.same("two parts of 1.5", estimates(twoParts(1, 1)), "3 4 12");
        Check.same("parts of 4.5 and -4.5", estimates(twoParts(3, -3)), "3 1 12");
        // With the mix 876747708 of the limit, 93 * t / 38 is just below 2147483648, and 76 * t / 31 just above it.
        int[][] below = {{999, 1000}, {-999, -1000}, {600, 600}, {-600, -600}, {609, 609}, {610, 611}, {-610, -611}};
        for (int[] d : below) {
            SampleBench bench = Benches.read("1/1/2/0;0,1,0,93," + d[0] + ";1,1,0,38,7");
            Check.same("just below, " + d[0], estimates(bench), "2 " + d[1] + " 93");
        }
        for (int value : new int[] {999, -999, 610}) {
            SampleBench bench = Benches.read("1/1/2/0;0,1,0,76," + value + ";1,1,0,31,7");
            Check.same("just above, " + value, estimates(bench), "2 " + value + " 76");
        }
        // With the mix 1073741824, 2 * t is just as much as 2147483648, and with 2147483648, t is.
        Check.same("as much", estimates(Benches.read("1/1/-39848503/0;0,1,0,1,0;1,1,0,2,999")), "2 999 2");
        Check.same("the greatest mix", estimates(Benches.read("1/1/-1676833246/0;0,1,0,99,0;1,1,0,99,999")),
                "2 999 99");
        Check.same("the least mix and weight", estimates(Benches.read("1/1/0/0;0,1,0,1,999;287730,1,0,99,5")),
                "2 29725441605 29755197");
        Check.same("below 0", Benches.read("1/1/0/0;0,1,0,1,-998;287730,1,0,99,5").estimate(0, 1), -29695686409L);
    }

    // ---- texts

    /** The number of items, the code of the error or the name of the exception. */
    private static Object readOf(String text) {
        SampleBench bench = new SampleBench();
        Check.feed(bench, text);
        return Check.outcome(() -> bench.read(0));
    }

    private static void errorAt(int position, String text) {
        Check.same("read of " + text, readOf(text), -100 - position);
    }

    private static void texts() {
        Document.isPlain("A summary can be written as a text, and a text be read, of this form:");
        Document.says("`summary = kind \"/\" size \"/\" seed \"/\" span { \";\" item`}", () -> {
            Check.same("no items", readOf("3/12/-5/40"), 0);
            Check.same("one item", readOf("3/12/-5/40;1,2,3,4,5"), 1);
            Check.same("two items", readOf("3/12/-5/40;1,2,3,4,5;6,7,1,9,9"), 2);
            String[] wrong = {"", "3", "3;", "3/12", "3/12;", "3/12/-5", "3/12/-5;", "3,", "3/12,", "3//", "3/12/-5//"};
            int[] positions = {0, 1, 1, 4, 4, 7, 7, 1, 4, 2, 8};
            for (int i = 0; i < wrong.length; i++) {
                errorAt(positions[i], wrong[i]);
            }
            errorAt(10, "3/12/-5/40/");
            errorAt(11, "3/12/-5/40;");
            errorAt(11, "3/12/-5/40;;");
        });
        Document.says("`item = number \",\" key \",\" stratum \",\" weight \",\" value`", () -> {
            String item = "10,20,3,40,-50";
            for (int length = 0; length <= 12; length++) {
                errorAt(8 + length, "0/1/7/0;" + item.substring(0, length));
            }
            Check.same("a shorter value", readOf("0/1/7/0;" + item.substring(0, 13)), 1);
            Check.same("all of it", readOf("0/1/7/0;" + item), 1);
            errorAt(22, "0/1/7/0;" + item + ",");
            errorAt(22, "0/1/7/0;" + item + "/");
            errorAt(10, "0/1/7/0;10;20,3,40,-50");
            errorAt(10, "0/1/7/0;10/20,3,40,-50");
        });
        Document.says("where braces mean zero or more repetitions; each of these is a number: one to ten digits, with "
                + "an optional minus sign before them; when it is written, it has no leading zeros.",
                FormulaBounds::numbersInTexts);
        Document.says("The items are the kept ones in ascending order of numbers.", () -> {
            SampleBench bench = Benches.read("0/3/7/2;2,1,1,1,1;9,2,2,2,2");
            Check.same("in ascending order", Benches.written(bench, 0), "0/3/7/2;2,1,1,1,1;9,2,2,2,2");
            bench.offer(0, 3, 3, 3, 3);
            Check.same("the kept ones", Benches.written(bench, 0), "0/3/7/2;9,2,2,2,2;10,3,3,3,3");
            Check.same("none", Benches.written(Bounds.noItems(1), 0), "1/3/7/0");
        });
        Document.says("Quotas are not written; after reading, they are equal to the size.", () -> {
            SampleBench bench = Bounds.stratified(0, 12, 3, 4);
            String text = Benches.written(bench, 0);
            Check.same("the text begins without quotas", text.substring(0, 8), "2/1/7/0;");
            Check.feed(bench, "2/11/7/0;0,1,1,1,1");
            bench.read(0);
            Check.same("after reading in place of it", Benches.quotas(bench, 0), "11 11 11 11");
            Check.same("the least size", Benches.quotas(Benches.read("0/1/7/0"), 0), "1 1 1 1");
            Check.same("the greatest size", Benches.quotas(Benches.read("3/12/7/0"), 0), "12 12 12 12");
        });
        Document.says("The error position of a text is the offset, from 0, of the first character that cannot continue "
                + "such a text, or the length of the text if it ends too early; numbers that are out of range are no "
                + "such errors.", FormulaBounds::errorPositions);
    }

    private static void numbersInTexts() {
        String[] none = {"/1/7/0", "0//7/0", "0/1//0", "0/1/7/", "0/1/7/0;,1,1,1,1", "0/1/7/0;1,1,1,1,"};
        int[] positions = {0, 2, 4, 6, 8, 16};
        for (int i = 0; i < none.length; i++) {
            errorAt(positions[i], none[i]);
        }
        Check.same("one digit", readOf("0/1/7/0"), 0);
        Check.same("ten digits", readOf("0/1/0000000007/0"), 0);
        Check.same("ten digits of all", readOf("0000000000/0000000001/-2147483648/0000000000;0000000001,0000000001,"
                + "0000000001,0000000001,0000000001"), 1);
        errorAt(14, "0/1/0000000007" + "0/0");
        errorAt(15, "0/1/-0000000007" + "0/0");
        errorAt(10, "00000000000/1/7/0");
        errorAt(16, "0/1/7/0000000000" + "0");
        errorAt(18, "0/1/7/0;0000000001" + "1,1,1,1,1");
        errorAt(26, "0/1/7/0;1,1,1,1,0000000001" + "1");
        Check.same("a minus sign", readOf("0/1/-7/0;1,1,1,1,-1"), 1);
        errorAt(5, "0/1/-");
        errorAt(5, "0/1/-/0");
        errorAt(5, "0/1/--7/0");
        errorAt(4, "0/1/+7/0");
        errorAt(5, "0/1/7-/0");
        Check.same("no leading zeros", Benches.written(Benches.read(
                "00/012/-0000000007/040;0000000000,00,00,01,000;10,010,003,099,-0999"), 0),
                "0/12/-7/40;0,0,0,1,0;10,10,3,99,-999");
        Check.same("eleven repetitions", readOf(tenItems() + ";10,0,0,1,0"), 11);
        errorAt(108, tenItems() + ";");
    }

    private static void errorPositions() {
        errorAt(0, "x0/1/7/0");
        errorAt(6, "0/1/7/x");
        errorAt(7, "0/1/7/0x;;");
        errorAt(0, "");
        errorAt(5, "0/1/7");
        Check.same("out of range, but no error", readOf("9/99/9999999999/99;-1,-1,-1,-1,-1000"),
                "IllegalArgumentException");
        errorAt(18, "9/99/9999999999/99x");
        errorAt(19, "9/99/9999999999/99;");
        errorAt(23, "0/1/7/1;5,1,1,1,1;4,1,1");
        errorAt(119, tenItems() + ";1,1,1,1,000,");
        errorAt(120, tenItems() + ";10,10,10,10,");
        String text = "2/12/-34/5;10,20,3,40,-50;11,0,1,2,-3";
        for (int at = 0; at <= text.length(); at++) {
            sameAsModel(text.substring(0, at));
            for (char sign : SIGNS.toCharArray()) {
                sameAsModel(text.substring(0, at) + sign);
                sameAsModel(text.substring(0, at) + sign + text.substring(at));
                sameAsModel(text.substring(0, at) + sign + text.substring(Math.min(at + 1, text.length())));
            }
        }
    }

    /** A text of 107 characters. */
    private static String tenItems() {
        StringBuilder text = new StringBuilder("0/1/7/0");
        for (int i = 0; i < 10; i++) {
            text.append(";").append(i).append(",0,0,1,0");
        }
        return text.toString();
    }

    private static void sameAsModel(String text) {
        int due = Model.errorOf(text);
        Object got = readOf(text);
        boolean isCode = got instanceof Integer && (Integer) got < 0;
        Check.same("read of " + text, isCode ? -100 - (Integer) got : -1, due);
    }

    // ---- details

    private static void details() {
        Document.says("With the quota 0, the reason for kind 2 is 3, whatever else applies.", () -> {
            SampleBench bench = Bounds.stratified(0, 1, 2, 0);
            int[] due = {3, 2, 0, 3, 3, 0, 0, 3};
            for (int i = 0; i < due.length; i++) {
                Check.same("item " + i, bench.reason(0, i), due[i]);
            }
            Check.same("a quota of 1", Bounds.stratified(1, 1, 1, 1).reason(0, 0), 0);
            SampleBench sameKeys = Benches.read("2/1/7/0;0,5,0,1,1;1,5,0,1,1;2,5,0,1,1");
            sameKeys.setQuota(0, 0, 0);
            Check.same("the same key and enough others before it", sameKeys.reason(0, 1), 3);
            for (int kind : new int[] {0, 1, 3}) {
                SampleBench other = Benches.eight(kind, 12);
                other.allocate(0, 0, false);
                Check.same("a quota of 0 of kind " + kind, other.reason(0, 7), 0);
            }
        });
        Document.says("At most 10 changes are kept; older ones are gone for good, also when later ones are taken back.",
                FormulaBounds::tenChanges);
        Document.says("Numbers in texts can be -0 and have zeros at their beginning.", () -> {
            Check.same("-0 of all", Benches.written(Benches.read("-0/1/-0/-0;-0,-0,-0,1,-0"), 0), "0/1/0/0;0,0,0,1,0");
            Check.same("zeros of all", Benches.written(
                    Benches.read("-00/00012/-0000000008/000;007,0099,-000,0099,-0999"), 0), "0/12/-8/0;7,99,0,99,-999");
            Check.same("-0 is no size", readOf("0/-0/0/0"), "IllegalArgumentException");
            Check.same("-0 is no weight", readOf("0/1/0/0;1,1,1,-0,1"), "IllegalArgumentException");
            Check.same("-1 and -0 do increase no numbers", readOf("0/1/0/0;0,1,1,1,1;-0,1,1,1,1"),
                    "IllegalArgumentException");
        });
        Document.says("In merging, an item with the number of an item that the other summary keeps counts as the same "
                + "one and is not added.", () -> {
            SampleBench bench = Benches.read("0/3/7/0;1,1,1,1,1;5,5,1,5,5");
            Check.feed(bench, "0/3/7/0;1,9,2,9,9;3,3,3,3,3;5,9,2,9,9");
            bench.read(1);
            Check.answers(3, "merge", () -> bench.merge(1, 0));
            Check.same("the list", Benches.written(bench, 0), "0/3/7/0;1,1,1,1,1;3,3,3,3,3;5,5,1,5,5");
            Check.answers(3, "merge back", () -> bench.merge(0, 1));
            Check.same("the other list", Benches.written(bench, 1), "0/3/7/0;1,9,2,9,9;3,3,3,3,3;5,9,2,9,9");
        });
        Document.says("A merge of a summary into itself adds nothing, and is a change.", () -> {
            for (int count : new int[] {0, 1, 40, 60}) {
                for (int span : new int[] {0, 1, 40}) {
                    SampleBench bench = Bounds.drawn(0, 3, span, count);
                    int kept = bench.summary(0, 4);
                    Check.answers(kept, count + " items, span " + span, () -> bench.merge(0, 0));
                    Check.same("after it", Check.seen(bench), Check.seen(Bounds.drawn(0, 3, span, count)));
                    Check.answers(2, "undo of this change", bench::undo);
                    Check.answers(1, "undo of offerDrawn", bench::undo);
                }
            }
        });
        Document.says("After a text is read, the next item gets the greatest number of the text plus 1, if its number "
                + "would not be greater.", () -> {
            int[][] due = {{0, 8}, {6, 8}, {7, 8}, {8, 9}, {9, 10}, {999998, 999999}, {999999, 1000000}};
            for (int[] d : due) {
                SampleBench bench = Benches.eight(0, 3);
                Check.feed(bench, "0/1/7/0;" + d[0] + ",1,1,1,1");
                bench.read(1);
                Check.answers(d[1], "the number after " + d[0], () -> bench.offer(0, 1, 1, 1, 1));
            }
            SampleBench none = Benches.eight(0, 3);
            Check.feed(none, "0/1/7/0");
            none.read(1);
            Check.answers(8, "the number after a text without items", () -> none.offer(1, 1, 1, 1, 1));
            Bounds.answers(0, () -> Benches.read("0/1/7/0"), "the first number after a text without items",
                    b -> b.offer(0, 1, 1, 1, 1));
            Bounds.answers(1, () -> Benches.read("0/1/7/0;0,1,1,1,1"), "the number after a text with 0",
                    b -> b.offer(0, 1, 1, 1, 1));
        });
    }

    private static void tenChanges() {
        for (int changes = 0; changes < 13; changes++) {
            SampleBench bench = new SampleBench();
            for (int i = 0; i < changes; i++) {
                bench.define(0, 0, 1, i, 0);
            }
            int kept = Math.min(changes, 10);
            for (int left = kept - 1; left >= 0; left--) {
                Check.answers(left, "undo of " + changes + " changes", bench::undo);
            }
            Check.answers("IllegalStateException", "undo of no more than " + kept, bench::undo);
            Object seed = changes > 10 ? changes - 11 : "IllegalStateException";
            Check.answers(seed, "the seed then", () -> bench.summary(0, 2));
        }
        SampleBench bench = new SampleBench();
        for (int i = 0; i < 12; i++) {
            bench.define(0, 0, 1, i, 0);
        }
        for (int i = 0; i < 4; i++) {
            bench.undo();
        }
        bench.define(0, 0, 1, 99, 0);
        for (int left = 6; left >= 0; left--) {
            Check.answers(left, "undo after four were taken back and one was made", bench::undo);
        }
        Check.answers("IllegalStateException", "the older ones", bench::undo);
        Check.answers(1, "the seed that is left", () -> bench.summary(0, 2));
    }
}
