/** The boundary cases of the promises 12 to 19: kept items, items of samples, and what places them there. */
final class ItemsBounds {
    private ItemsBounds() {
    }

    static void test() {
        kept();
        sampled();
        mix();
        commonKey();
        reason();
        needed();
        margin();
        stratum();
    }

    /** What a call answers for each kept item of slot 0. */
    private static String row(SampleBench bench, Bounds.Items call) {
        StringBuilder row = new StringBuilder();
        for (int i = 0; i < bench.summary(0, 4); i++) {
            int at = i;
            Object answer = Check.outcome(() -> call.of(bench, 0, at));
            row.append(i == 0 ? "" : " ").append("NoSuchElementException".equals(answer) ? "none" : answer);
        }
        return row.toString();
    }

    private static SampleBench sameKeys(int kind) {
        return Benches.read(kind + "/1/7/0;0,5,0,1,1;1,5,0,1,1;2,5,0,1,1;3,5,1,1,1");
    }

    private static void kept() {
        Document.section("Promise 12: kept");
        Document.isPlain("Returns a part of a kept item.", "- `slot`: the slot", "Returns the part.");
        Document.says("`int kept(int slot, int i, int what) throws IndexOutOfBoundsException, "
                + "IllegalArgumentException, IllegalStateException`", () -> {
            Bounds.refused(Benches.INDEX, Bounds::rich, "no slot, no what", b -> b.kept(4, 0, 6));
            Bounds.refused(Benches.INDEX, Bounds::rich, "no item, no what", b -> b.kept(0, 8, 6));
            Bounds.refused(Benches.INDEX, Bounds::rich, "no item, no what", b -> b.kept(2, 0, -1));
            Bounds.refused(Benches.ARGUMENT, Bounds::rich, "no what, empty", b -> b.kept(3, 0, 6));
        });
        Document.says("- `i`: its index in the list, from 0", () -> {
            Check.same("the first", Benches.eight(0, 3).kept(0, 0, 0), 0);
            Check.same("the last", Benches.eight(0, 3).kept(0, 7, 0), 7);
            Check.same("the first of 60", Bounds.drawn(0, 3, 0, 60).kept(0, 0, 0), 0);
            Check.same("the last of 60", Bounds.drawn(0, 3, 0, 60).kept(0, 59, 0), 59);
            Check.same("the first of a span", Bounds.drawn(0, 3, 40, 60).kept(0, 0, 0), 20);
            Check.same("the last of a span", Bounds.drawn(0, 3, 40, 60).kept(0, 39, 0), 59);
        });
        Document.says("- `what`: 0 the number; 1 the key; 2 the stratum; 3 the weight; 4 the value; 5 its index in the "
                + "sample, -1 if it is not in it", () -> {
            SampleBench bench = Benches.read("0/1/7/0;0,0,0,1,-999;999999,99,3,99,999");
            String[] due = {"0 999999", "0 99", "0 3", "1 99", "-999 999", "0 -1"};
            for (int what = 0; what < due.length; what++) {
                Check.same("what " + what, Benches.kept(bench, 0, what), due[what]);
            }
            Check.same("size 1", Benches.kept(Benches.eight(0, 1), 0, 5), "-1 -1 -1 0 -1 -1 -1 -1");
            Check.same("all but one", Benches.kept(Benches.eight(0, 7), 0, 5), "1 6 3 0 -1 5 4 2");
            Check.same("all", Benches.kept(Benches.eight(0, 8), 0, 5), "1 6 3 0 7 5 4 2");
            Check.same("no candidates", Benches.kept(Benches.eight(3, 12), 0, 5), "3 -1 5 -1 2 4 1 0");
            Check.same("quotas of 0 and 1", Benches.kept(Bounds.stratified(0, 1, 2, 0), 0, 5), "-1 -1 1 -1 -1 0 2 -1");
        });
        Document.says(Document.NO_ITEM, () -> Bounds.noSuchItem((b, slot, i) -> b.kept(slot, i, 5)));
        Document.says(Document.NO_WHAT, () -> Bounds.outside(Benches.ARGUMENT, Bounds::rich, "what", 0, 5,
                (b, n) -> b.kept(0, 7, n)));
        Document.says(Document.EMPTY, () -> {
            for (int what = 0; what < 6; what++) {
                int which = what;
                Bounds.emptySlot((b, slot) -> b.kept(slot, 0, which));
            }
        });
    }

    private static void sampled() {
        Document.section("Promise 13: sampled");
        Document.isPlain("Returns a part of an item of the sample.", "- `slot`: the slot", "Returns the part.");
        Document.says("`int sampled(int slot, int i, int what) throws IndexOutOfBoundsException, "
                + "IllegalArgumentException, IllegalStateException`", () -> {
            Bounds.refused(Benches.INDEX, Bounds::rich, "no slot, no what", b -> b.sampled(4, 0, 5));
            Bounds.refused(Benches.INDEX, Bounds::rich, "no item, no what", b -> b.sampled(0, 3, 5));
            Bounds.refused(Benches.INDEX, Bounds::rich, "no item, no what", b -> b.sampled(2, 0, -1));
            Bounds.refused(Benches.ARGUMENT, Bounds::rich, "no what, empty", b -> b.sampled(3, 0, 5));
        });
        Document.says("- `i`: its index in the sample, from 0", () -> {
            Check.same("the first", Benches.eight(0, 3).sampled(0, 0, 0), 3);
            Check.same("the last", Benches.eight(0, 3).sampled(0, 2, 0), 7);
            Check.same("the last of twelve", Bounds.drawn(0, 12, 0, 12).sampled(0, 11, 0), 11);
        });
        Document.says("- `what`: 0 the number; 1 the key; 2 the stratum; 3 the weight; 4 the value", () -> {
            SampleBench bench = Benches.read("0/2/7/0;0,0,0,1,-999;999999,99,3,99,999");
            String[] due = {"0 999999", "0 99", "0 3", "1 99", "-999 999"};
            for (int what = 0; what < due.length; what++) {
                Check.same("what " + what, Benches.sampled(bench, 0, what), due[what]);
            }
        });
        Document.says(Document.NO_ITEM, () -> {
            Bounds.noSuchSlot((b, slot) -> b.sampled(slot, 0, 0));
            Bounds.outside(Benches.INDEX, Bounds::rich, "item of the sample", 0, 2, (b, i) -> b.sampled(0, i, 0));
            Bounds.outside(Benches.INDEX, () -> Benches.eight(0, 12), "item of eight", 0, 7,
                    (b, i) -> b.sampled(0, i, 0));
            Bounds.outside(Benches.INDEX, () -> Benches.eight(3, 12), "item of six", 0, 5,
                    (b, i) -> b.sampled(0, i, 0));
            Bounds.outside(Benches.INDEX, () -> Bounds.stratified(2, 0, 1, 0), "item of quotas", 0, 2,
                    (b, i) -> b.sampled(0, i, 0));
            Bounds.refused(Benches.INDEX, Bounds::rich, "a sample of none", b -> b.sampled(2, 0, 0));
            Bounds.refused(Benches.INDEX, () -> Bounds.stratified(0, 0, 0, 0), "an empty sample",
                    b -> b.sampled(0, 0, 0));
        });
        Document.says(Document.NO_WHAT, () -> Bounds.outside(Benches.ARGUMENT, Bounds::rich, "what", 0, 4,
                (b, n) -> b.sampled(0, 2, n)));
        Document.says(Document.EMPTY, () -> {
            for (int what = 0; what < 5; what++) {
                int which = what;
                Bounds.emptySlot((b, slot) -> b.sampled(slot, 0, which));
            }
        });
    }

    private static void mix() {
        Document.section("Promise 14: mix");
        Document.isPlain("- `slot`: the slot", "Returns the mix.");
        Document.says("`long mix(int slot, int i) throws IndexOutOfBoundsException, IllegalStateException`", () -> {
            Bounds.refused(Benches.INDEX, Bounds::rich, "no slot, no item", b -> b.mix(4, 99));
            Bounds.answers(415870661L, Bounds::rich, "nothing is wrong", b -> b.mix(0, 0));
        });
        Document.says("Returns the mix that belongs to a kept item: for kind 3 that of its key, otherwise that of its "
                + "number.", () -> {
            for (int kind = 0; kind < 4; kind++) {
                SampleBench bench = Benches.read(kind + "/1/7/0;1,0,0,99,1;99,1,0,99,1;999999,99,0,99,1");
                Check.same("kind " + kind, row(bench, SampleBench::mix), kind == 3 ? "415870661 1478832578 490190196"
                        : "1478832578 490190196 1346567406");
            }
        });
        Document.says("- `i`: its index in the list", () -> {
            Check.same("the first", Benches.eight(0, 1).mix(0, 0), 415870661L);
            Check.same("the last", Benches.eight(0, 1).mix(0, 7), 531079104L);
        });
        Document.says(Document.NO_ITEM, () -> Bounds.noSuchItem(SampleBench::mix));
        Document.says(Document.EMPTY, () -> Bounds.emptySlot((b, slot) -> b.mix(slot, 0)));
    }

    private static void commonKey() {
        Document.section("Promise 15: commonKey");
        Document.isPlain("- `slot`: the slot", "Returns the key.");
        Document.says("`int commonKey(int slot) throws IndexOutOfBoundsException, IllegalStateException, "
                + "NoSuchElementException`", () -> {
            Bounds.refused(Benches.STATE, Bounds::rich, "an empty slot", b -> b.commonKey(3));
            Bounds.refused(Benches.ELEMENT, Bounds::rich, "an empty sample", b -> b.commonKey(2));
        });
        Document.says("Returns the key that occurs most often in the sample; of several, the lowest one.", () -> {
            Check.same("two keys that occur twice", Benches.eight(0, 8).commonKey(0), 5);
            Check.same("keys that occur once", Benches.eight(0, 3).commonKey(0), 0);
            Check.same("the sample alone counts", Benches.eight(2, 1).commonKey(0), 9);
            Check.same("the least key", Benches.read("0/3/7/0;0,0,0,1,1;1,99,0,1,1").commonKey(0), 0);
            Check.same("the greatest key", Benches.read("0/3/7/0;0,99,0,1,1;1,99,0,1,1;2,0,0,1,1").commonKey(0), 99);
            // The sample is 3, 0 and 7 with the keys 0, 7 and 7.
            Check.same("kept items that are not in it", Benches.read("0/3/7/0;0,7,0,1,1;1,0,0,1,1;2,0,0,1,1;3,0,0,1,1;"
                    + "5,0,0,1,1;7,7,0,1,1").commonKey(0), 7);
            Check.same("once more than a lower one", Benches.read("0/5/7/0;0,7,0,1,1;1,7,0,1,1;2,7,0,1,1;3,6,0,1,1;"
                    + "4,6,0,1,1").commonKey(0), 7);
        });
        Document.says(Document.NO_SLOT, () -> Bounds.noSuchSlot((b, slot) -> b.commonKey(slot)));
        Document.says(Document.EMPTY, () -> Bounds.emptySlot((b, slot) -> b.commonKey(slot)));
        Document.says(Document.NO_SAMPLE, () -> {
            for (int kind = 0; kind < 4; kind++) {
                int which = kind;
                Bounds.refused(Benches.ELEMENT, () -> Bounds.noItems(which), "no items", b -> b.commonKey(0));
            }
            Bounds.refused(Benches.ELEMENT, () -> Bounds.stratified(0, 0, 0, 0), "quotas of 0", b -> b.commonKey(0));
            Bounds.answers(9, () -> Bounds.stratified(0, 0, 1, 0), "one item", b -> b.commonKey(0));
        });
    }

    private static void reason() {
        Document.section("Promise 16: reason");
        Document.isPlain("Returns why a kept item is in the sample or not.", "- `slot`: the slot");
        Document.says("`int reason(int slot, int i) throws IndexOutOfBoundsException, IllegalStateException`", () -> {
            Bounds.refused(Benches.INDEX, Bounds::rich, "no slot, no item", b -> b.reason(4, 99));
            Bounds.answers(0, Bounds::rich, "nothing is wrong", b -> b.reason(0, 0));
        });
        Document.says("- `i`: its index in the list", () -> {
            Check.same("the first", Benches.eight(1, 3).reason(0, 0), 2);
            Check.same("the last", Benches.eight(1, 3).reason(0, 7), 0);
        });
        Document.says("Returns 0 if it is in the sample; 1 if it is no candidate, as there is a kept item with the "
                + "same key and a lower number; 2 if enough candidates, for kind 2 items of its stratum, come before "
                + "it; for kind 2, 3 if the quota of its stratum is 0.", () -> {
            Check.same("kind 0, one is in it", row(Benches.eight(0, 1), SampleBench::reason), "2 2 2 0 2 2 2 2");
            Check.same("kind 0, one is not", row(Benches.eight(0, 7), SampleBench::reason), "0 0 0 0 2 0 0 0");
            Check.same("kind 0, all", row(Benches.eight(0, 8), SampleBench::reason), "0 0 0 0 0 0 0 0");
            Check.same("kind 1, one is not", row(Benches.eight(1, 7), SampleBench::reason), "0 2 0 0 0 0 0 0");
            Check.same("kind 2, quotas", row(Bounds.stratified(0, 1, 2, 0), SampleBench::reason), "3 2 0 3 3 0 0 3");
            Check.same("kind 3, one candidate is not", row(Benches.eight(3, 5), SampleBench::reason),
                    "0 1 2 1 0 0 0 0");
            Check.same("kind 3, all candidates", row(Benches.eight(3, 6), SampleBench::reason), "0 1 0 1 0 0 0 0");
            Check.same("kind 0, the same keys", row(sameKeys(0), SampleBench::reason), "2 2 2 0");
            Check.same("kind 2, the same keys", row(sameKeys(2), SampleBench::reason), "0 2 2 0");
            Check.same("kind 3, the same keys", row(sameKeys(3), SampleBench::reason), "0 1 1 1");
        });
        Document.says(Document.NO_ITEM, () -> Bounds.noSuchItem(SampleBench::reason));
        Document.says(Document.EMPTY, () -> Bounds.emptySlot((b, slot) -> b.reason(slot, 0)));
    }

    private static void needed() {
        Document.section("Promise 17: needed");
        Document.isPlain("- `slot`: the slot", "Returns the size or quota.");
        Document.says("`int needed(int slot, int i) throws IndexOutOfBoundsException, IllegalStateException, "
                + "NoSuchElementException`", () -> {
            Bounds.refused(Benches.INDEX, Bounds::rich, "no slot, no item", b -> b.needed(4, 99));
            Bounds.refused(Benches.ELEMENT, () -> Benches.eight(3, 3), "no candidate", b -> b.needed(0, 1));
        });
        Document.says("Returns the least size, for kind 2 the least quota of its stratum, with which a kept item would "
                + "be in the sample, all else being as it is; it may be greater than 12.", ItemsBounds::leastSizes);
        Document.says("- `i`: its index in the list", () -> {
            Check.same("the first", Benches.eight(0, 1).needed(0, 0), 2);
            Check.same("the last", Benches.eight(0, 1).needed(0, 7), 3);
        });
        Document.says(Document.NO_ITEM, () -> Bounds.noSuchItem(SampleBench::needed));
        Document.says(Document.EMPTY, () -> Bounds.emptySlot((b, slot) -> b.needed(slot, 0)));
        Document.says("Throws `NoSuchElementException` if it is no candidate", () -> {
            Bounds.refused(Benches.ELEMENT, () -> Benches.eight(3, 12), "the second one of a key", b -> b.needed(0, 3));
            Bounds.answers(6, () -> Benches.eight(3, 12), "the first one of a key", b -> b.needed(0, 2));
            Check.same("kind 3", row(sameKeys(3), SampleBench::needed), "1 none none none");
            Check.same("kind 0", row(sameKeys(0), SampleBench::needed), "2 4 3 1");
            Check.same("kind 1", row(sameKeys(1), SampleBench::needed), "2 4 3 1");
            Check.same("kind 2", row(sameKeys(2), SampleBench::needed), "1 3 2 1");
        });
    }

    private static void leastSizes() {
        for (int kind : new int[] {0, 1, 3}) {
            SampleBench bench = Benches.eight(kind, 1);
            for (int i = 0; i < 8; i++) {
                int at = i;
                Object least = Check.outcome(() -> bench.needed(0, at));
                if (least instanceof Integer) {
                    Check.same("with the size " + least, Benches.eight(kind, (Integer) least).kept(0, i, 5),
                            (Integer) least - 1);
                    Check.same("with one less", (Integer) least == 1
                            || Benches.eight(kind, (Integer) least - 1).kept(0, i, 5) == -1, true);
                }
            }
        }
        for (int quota = 0; quota <= 2; quota++) {
            Check.same("kind 2, quotas of " + quota, row(Bounds.stratified(quota, quota, quota, quota),
                    SampleBench::needed), "1 2 1 1 2 1 2 2");
        }
        SampleBench bench = Bounds.drawn(0, 1, 0, 14);
        Check.same("14 items", row(bench, SampleBench::needed), "3 10 6 2 13 8 7 5 9 12 1 14 4 11");
        boolean[] seen = new boolean[61];
        SampleBench full = Bounds.drawn(2, 1, 0, 60);
        SampleBench all = Bounds.drawn(0, 12, 0, 60);
        int greatest = 0;
        for (int i = 0; i < 60; i++) {
            seen[all.needed(0, i)] = true;
            greatest = Math.max(greatest, full.needed(0, i));
        }
        for (int size = 1; size <= 60; size++) {
            Check.same("some item of 60 needs the size " + size, seen[size], true);
        }
        int most = 0;
        for (int stratum = 0; stratum < 4; stratum++) {
            most = Math.max(most, full.stratum(0, stratum, 0));
        }
        Check.same("more than 12 of a stratum", greatest > 12, true);
        Check.same("the last one of a stratum", greatest, most);
    }

    private static void margin() {
        Document.section("Promise 18: margin");
        Document.isPlain("- `slot`: the slot", "Returns the number of items.");
        Document.says("`int margin(int slot, int i) throws IndexOutOfBoundsException, IllegalStateException, "
                + "NoSuchElementException`", () -> {
            Bounds.refused(Benches.INDEX, Bounds::rich, "no slot, no item", b -> b.margin(4, 99));
            Bounds.refused(Benches.ELEMENT, Bounds::rich, "not in the sample", b -> b.margin(0, 1));
        });
        Document.says("Returns the margin of an item of the sample: the size minus its index in the sample; for kind "
                + "2, the quota of its stratum minus its index among the items of this stratum in the sample.", () -> {
            Check.same("size 1", row(Benches.eight(0, 1), SampleBench::margin), "none none none 1 none none none none");
            Check.same("all but one", row(Benches.eight(0, 7), SampleBench::margin), "6 1 4 7 none 2 3 5");
            Check.same("just all", row(Benches.eight(0, 8), SampleBench::margin), "7 2 5 8 1 3 4 6");
            Check.same("the greatest size", row(Benches.eight(0, 12), SampleBench::margin), "11 6 9 12 5 7 8 10");
            Check.same("kind 1", row(Benches.eight(1, 7), SampleBench::margin), "1 none 3 6 2 4 5 7");
            Check.same("kind 2", row(Bounds.stratified(0, 1, 2, 12), SampleBench::margin),
                    "none none 2 12 none 1 1 11");
            Check.same("kind 3", row(Benches.eight(3, 6), SampleBench::margin), "3 none 1 none 4 2 5 6");
        });
        Document.says("If fewer candidates than this came newly before it, it would stay in the sample.",
                ItemsBounds::newlyBefore);
        Document.says("- `i`: its index in the list", () -> {
            Check.same("the first", Benches.eight(0, 8).margin(0, 0), 7);
            Check.same("the last", Benches.eight(0, 8).margin(0, 7), 6);
        });
        Document.says(Document.NO_ITEM, () -> Bounds.noSuchItem(SampleBench::margin));
        Document.says(Document.EMPTY, () -> Bounds.emptySlot((b, slot) -> b.margin(slot, 0)));
        Document.says("Throws `NoSuchElementException` if it is not in the sample", () -> {
            Bounds.refused(Benches.ELEMENT, () -> Benches.eight(0, 7), "the one that is not", b -> b.margin(0, 4));
            Bounds.refused(Benches.ELEMENT, () -> Benches.eight(3, 12), "no candidate", b -> b.margin(0, 1));
            Bounds.refused(Benches.ELEMENT, () -> Bounds.stratified(0, 1, 1, 1), "a quota of 0", b -> b.margin(0, 0));
            Bounds.answers(1, () -> Bounds.stratified(1, 1, 1, 1), "a quota of 1", b -> b.margin(0, 0));
        });
    }

    // With the seed 7, the numbers 3 and 0 come before 5, and 5 comes before 8.
    private static void newlyBefore() {
        String[] befores = {"", ";0,1,0,1,1", ";0,1,0,1,1;3,2,0,1,1"};
        for (int kind : new int[] {0, 1, 2}) {
            for (int count = 0; count < befores.length; count++) {
                SampleBench bench = Benches.read(kind + "/3/7/0" + befores[count] + ";5,3,0,1,1;8,4,0,1,1");
                Check.same("kind " + kind + ", " + count + " before 5", bench.margin(0, count), 3 - count);
                boolean isOut = row(bench, SampleBench::margin).endsWith("none");
                Check.same("kind " + kind + ", " + count + " before 8", isOut, count == 2);
            }
        }
        SampleBench slid = Benches.read("0/2/7/0;5,1,0,1,1;8,1,0,1,1");
        Check.same("the margin of 8", slid.margin(0, 1), 1);
        Check.feed(slid, "0/2/7/0;3,1,0,1,1");
        slid.read(1);
        slid.merge(1, 0);
        Check.same("one came newly before 8", slid.kept(0, 2, 5), -1);
        Check.same("and before 5", slid.kept(0, 1, 5), 1);
    }

    private static void stratum() {
        Document.section("Promise 19: stratum");
        Document.isPlain("Returns a number about a stratum.", "- `slot`: the slot", "- `stratum`: the stratum",
                "Returns the number.");
        Document.says("`int stratum(int slot, int stratum, int what) throws IndexOutOfBoundsException, "
                + "IllegalArgumentException, IllegalStateException`", () -> {
            Bounds.refused(Benches.INDEX, Bounds::rich, "no slot, no what", b -> b.stratum(4, 0, 6));
            Bounds.refused(Benches.INDEX, Bounds::rich, "no stratum, no what", b -> b.stratum(0, 4, -1));
            Bounds.refused(Benches.INDEX, Bounds::rich, "no stratum, empty", b -> b.stratum(3, -1, 0));
            Bounds.refused(Benches.ARGUMENT, Bounds::rich, "no what, empty", b -> b.stratum(3, 0, 6));
        });
        Document.says("- `what`: 0 the number of kept items of the stratum; 1 the number of its items in the sample; 2 "
                + "and 3 the total of the values of these two; 4 and 5 the total of their weights", () -> {
            Check.same("no items", numbers(Bounds.noItems(1), 0), "0 0 0 0 0 0");
            Check.same("no items", numbers(Bounds.noItems(2), 3), "0 0 0 0 0 0");
            Check.same("one of two", numbers(Benches.eight(0, 3), 0), "2 1 1099 100 60 10");
            Check.same("none of two", numbers(Benches.eight(0, 3), 1), "2 0 -1049 0 80 0");
            Check.same("both", numbers(Benches.eight(0, 3), 3), "2 2 7 7 139 139");
            Check.same("a quota of 0", numbers(Bounds.stratified(0, 1, 2, 2), 0), "2 0 1099 0 60 0");
            Check.same("a quota of 1", numbers(Bounds.stratified(0, 1, 2, 2), 1), "2 1 -1049 -999 80 60");
            Check.same("no candidates", numbers(Benches.eight(3, 12), 1), "2 1 -1049 -999 80 60");
            Check.same("60 of the greatest", numbers(sixty(99, 999), 3), "60 12 59940 11988 5940 1188");
            Check.same("60 of the least", numbers(sixty(1, -999), 3), "60 12 -59940 -11988 60 12");
            Check.same("another stratum", numbers(sixty(1, -999), 2), "0 0 0 0 0 0");
        });
        Document.says("Throws `IndexOutOfBoundsException` if there is no such slot or stratum", () -> {
            Bounds.noSuchSlot((b, slot) -> b.stratum(slot, 0, 0));
            Bounds.outside(Benches.INDEX, Bounds::rich, "stratum", 0, 3, (b, n) -> b.stratum(0, n, 0));
        });
        Document.says(Document.NO_WHAT, () -> Bounds.outside(Benches.ARGUMENT, Bounds::rich, "what", 0, 5,
                (b, n) -> b.stratum(0, 3, n)));
        Document.says(Document.EMPTY, () -> {
            for (int what = 0; what < 6; what++) {
                int which = what;
                Bounds.emptySlot((b, slot) -> b.stratum(slot, 0, which));
            }
        });
    }

    private static String numbers(SampleBench bench, int stratum) {
        StringBuilder row = new StringBuilder();
        for (int what = 0; what < 6; what++) {
            row.append(what == 0 ? "" : " ").append(bench.stratum(0, stratum, what));
        }
        return row.toString();
    }

    private static SampleBench sixty(int weight, int value) {
        SampleBench bench = new SampleBench();
        bench.define(0, 2, 12, 7, 0);
        for (int i = 0; i < 60; i++) {
            bench.offer(0, 0, 3, weight, value);
        }
        return bench;
    }
}
