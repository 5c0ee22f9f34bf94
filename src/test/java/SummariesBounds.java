import java.util.function.Function;

/** The boundary cases of the promises 1 to 11: what puts summaries and items into slots. */
final class SummariesBounds {
    private SummariesBounds() {
    }

    static void test() {
        newObject();
        define();
        drop();
        offer();
        offerDrawn();
        summary();
        setQuota();
        allocate();
        quota();
        merge();
        copy();
    }

    private static void newObject() {
        Document.section("Promise 1: A new object");
        Document.says("`SampleBench()`", () -> {
            SampleBench one = Bounds.rich();
            Check.answers(false, "another object is refused", () -> new SampleBench() == null);
            Check.same("the first object stays as it is", Check.seen(one), Check.seen(Bounds.rich()));
        });
        Document.says("Creates a bench with empty slots.", () -> {
            SampleBench bench = new SampleBench();
            for (int slot = 0; slot < 4; slot++) {
                int at = slot;
                Check.answers("IllegalStateException", "summary of slot " + slot, () -> bench.summary(at, 4));
                Check.answers("IllegalStateException", "copy of slot " + slot, () -> bench.copy(at, at));
            }
            Check.answers(0, "no slot is filled", bench::save);
            Check.answers("IllegalStateException", "nothing can be taken back", bench::undo);
            Check.answers("IndexOutOfBoundsException", "no text", () -> bench.text(0));
            Check.answers(1, "no input", () -> bench.feed('0'));
        });
    }

    /** Slot 0 kept 0, 1, 8, 39, 40 or 60 items when the call answers their number; a slot that was empty kept none. */
    private static void countsBefore(Bounds.NumberCall call) {
        for (int count : new int[] {0, 1, 8, 60}) {
            Bounds.answers(count, () -> Bounds.drawn(0, 3, 0, count), count + " items", b -> call.of(b, 0));
        }
        Bounds.answers(40, () -> Bounds.drawn(0, 3, 40, 41), "41 items, span 40", b -> call.of(b, 0));
        Bounds.answers(0, Bounds::rich, "an empty slot", b -> call.of(b, 3));
        Bounds.answers(0, Bounds::rich, "a summary without items", b -> call.of(b, 2));
    }

    private static void define() {
        Document.section("Promise 2: define");
        Document.isPlain("- `slot`: the slot", "- `kind`: the kind", "- `size`: the size", "- `span`: the span");
        Document.says("`int define(int slot, int kind, int size, int seed, int span) throws IndexOutOfBoundsException, "
                + "IllegalArgumentException`", () -> {
            Bounds.refused(Benches.INDEX, Bounds::rich, "no slot, no kind", b -> b.define(4, 4, 1, 0, 0));
            Bounds.refused(Benches.INDEX, Bounds::rich, "no slot, no size", b -> b.define(-1, 0, 0, 0, 0));
            Bounds.refused(Benches.INDEX, Bounds::rich, "no slot, no span", b -> b.define(4, 0, 1, 0, 41));
        });
        Document.says("Puts a summary without items into a slot, in place of what is there.", () -> {
            for (int slot = 0; slot < 4; slot++) {
                SampleBench bench = Bounds.rich();
                bench.define(slot, 1, 12, -9, 40);
                Check.same("slot " + slot, Benches.written(bench, slot), "1/12/-9/40");
                Check.same("its items", bench.summary(slot, 4) + bench.summary(slot, 5) + bench.summary(slot, 7), 0);
            }
            Bounds.answers(61, Bounds::rich, "a list of 60 again", b -> {
                b.define(0, 0, 1, 1, 0);
                b.offerDrawn(0, 1, 60);
                b.define(0, 0, 1, 1, 0);
                b.offerDrawn(0, 1, 60);
                return b.kept(0, 0, 0) - 10;
            });
        });
        Document.says("Its quotas are equal to its size.", () -> {
            for (int size : new int[] {1, 2, 11, 12}) {
                SampleBench bench = Bounds.stratified(0, 12, 3, 4);
                bench.define(0, 2, size, 7, 0);
                Check.same("the quotas", Benches.quotas(bench, 0), size + " " + size + " " + size + " " + size);
            }
        });
        Document.says("- `seed`: the seed, any int", () -> {
            for (int seed : new int[] {Bounds.LEAST, Bounds.LEAST + 1, -1, 0, 1, Bounds.MOST - 1, Bounds.MOST}) {
                SampleBench bench = new SampleBench();
                Check.answers(0, "define", () -> bench.define(0, 0, 1, seed, 0));
                Check.same("the seed", bench.summary(0, 2), seed);
                Check.same("the text", Benches.written(bench, 0), "0/1/" + seed + "/0");
            }
        });
        Document.says("Returns the number of items that the slot kept before.",
                () -> countsBefore((b, slot) -> b.define(slot, 0, 1, 1, 0)));
        Document.says(Document.NO_SLOT, () -> Bounds.noSuchSlot((b, slot) -> b.define(slot, 0, 1, 1, 0)));
        Document.says("Throws `IllegalArgumentException` if the kind, the size or the span is out of range", () -> {
            Bounds.outside(Benches.ARGUMENT, Bounds::rich, "kind", 0, 3, (b, n) -> b.define(3, n, 1, 1, 0));
            Bounds.outside(Benches.ARGUMENT, Bounds::rich, "size", 1, 12, (b, n) -> b.define(3, 3, n, 1, 40));
            Bounds.outside(Benches.ARGUMENT, Bounds::rich, "span", 0, 40, (b, n) -> b.define(3, 3, 12, 1, n));
            Bounds.refused(Benches.ARGUMENT, Bounds::rich, "all", b -> b.define(0, 4, 13, 1, 41));
        });
    }

    private static void drop() {
        Document.section("Promise 3: drop");
        Document.isPlain("- `slot`: the slot");
        Document.says("`int drop(int slot) throws IndexOutOfBoundsException`", () -> {
            for (int slot = 0; slot < 4; slot++) {
                int at = slot;
                Bounds.answers(0, SampleBench::new, "drop of the empty slot " + slot, b -> b.drop(at));
            }
        });
        Document.says("Makes a slot empty.", () -> {
            for (int slot = 0; slot < 4; slot++) {
                SampleBench bench = Bounds.rich();
                int at = slot;
                int before = bench.save();
                bench.drop(slot);
                Check.same("slots that are filled", bench.save(), slot == 3 ? before : before - 1);
                Check.answers("IllegalStateException", "slot " + slot, () -> bench.summary(at, 4));
                Check.answers(0, "drop of it again", () -> bench.drop(at));
                Check.answers(9, "undo of this, which is a change", bench::undo);
                Check.answers("IllegalStateException", "slot " + slot, () -> bench.summary(at, 4));
            }
        });
        Document.says("Returns the number of items that it kept.", () -> countsBefore((b, slot) -> b.drop(slot)));
        Document.says(Document.NO_SLOT, () -> Bounds.noSuchSlot((b, slot) -> b.drop(slot)));
    }

    private static void offer() {
        Document.section("Promise 4: offer");
        Document.isPlain("Offers a new item to a summary.", "- `slot`: the slot", "- `key`: the key",
                "- `stratum`: the stratum", "- `weight`: the weight", "- `value`: the value");
        Document.says("`int offer(int slot, int key, int stratum, int weight, int value) throws "
                + "IndexOutOfBoundsException, IllegalArgumentException, IllegalStateException`", () -> {
            Bounds.refused(Benches.INDEX, Bounds::rich, "no slot, no key", b -> b.offer(4, 100, 0, 1, 0));
            Bounds.refused(Benches.INDEX, Bounds::rich, "no slot, no value", b -> b.offer(-1, 0, 0, 1, 1000));
            Bounds.refused(Benches.ARGUMENT, Bounds::rich, "no stratum, empty", b -> b.offer(3, 0, 4, 1, 0));
            Bounds.refused(Benches.ARGUMENT, Bounds::rich, "no weight, empty", b -> b.offer(3, 0, 0, 0, 0));
            Bounds.refused(Benches.ARGUMENT, () -> Bounds.drawn(0, 3, 0, 60), "no key, full",
                    b -> b.offer(0, -1, 0, 1, 0));
            Bounds.refused(Benches.ARGUMENT, () -> Bounds.drawn(0, 3, 0, 60), "no value, full",
                    b -> b.offer(0, 0, 0, 1, -1000));
        });
        Document.says("Returns the number of the item.", () -> {
            Bounds.answers(0, () -> Bounds.noItems(0), "the first item", b -> b.offer(0, 0, 0, 1, 0));
            Bounds.answers(8, () -> Benches.eight(0, 3), "the ninth item", b -> b.offer(0, 0, 0, 1, 0));
            Bounds.answers(60, () -> Bounds.drawn(0, 3, 1, 60), "the 61st item", b -> b.offer(0, 0, 0, 1, 0));
        });
        Document.says(Document.NO_SLOT, () -> Bounds.noSuchSlot((b, slot) -> b.offer(slot, 0, 0, 1, 0)));
        Document.says("Throws `IllegalArgumentException` if an argument is out of range", () -> {
            Bounds.outside(Benches.ARGUMENT, Bounds::rich, "key", 0, 99, (b, n) -> b.offer(1, n, 3, 99, 999));
            Bounds.outside(Benches.ARGUMENT, Bounds::rich, "stratum", 0, 3, (b, n) -> b.offer(1, 99, n, 99, -999));
            Bounds.outside(Benches.ARGUMENT, Bounds::rich, "weight", 1, 99, (b, n) -> b.offer(1, 99, 3, n, 999));
            Bounds.outside(Benches.ARGUMENT, Bounds::rich, "value", -999, 999, (b, n) -> b.offer(1, 99, 3, 99, n));
            Bounds.refused(Benches.ARGUMENT, Bounds::rich, "all", b -> b.offer(0, 100, 4, 100, 1000));
        });
        Document.says("Throws `IllegalStateException` if the slot is empty, or its summary has the span 0 and keeps 60 "
                + "items", () -> {
            Bounds.emptySlot((b, slot) -> b.offer(slot, 0, 0, 1, 0));
            Bounds.refused(Benches.STATE, () -> Bounds.drawn(3, 3, 0, 60), "60 items", b -> b.offer(0, 0, 0, 1, 0));
            Bounds.answers(59, () -> Bounds.drawn(3, 3, 0, 59), "59 items", b -> b.offer(0, 0, 0, 1, 0));
            Bounds.answers(60, () -> Bounds.drawn(3, 3, 1, 60), "60 items, span 1", b -> b.offer(0, 0, 0, 1, 0));
            Bounds.answers(60, () -> Bounds.drawn(3, 3, 40, 60), "60 items, span 40", b -> b.offer(0, 0, 0, 1, 0));
        });
    }

    private static void offerDrawn() {
        Document.section("Promise 5: offerDrawn");
        Document.isPlain("Offers drawn items to a summary.", "- `slot`: the slot");
        Document.says("`int offerDrawn(int slot, int start, int count) throws IndexOutOfBoundsException, "
                + "IllegalArgumentException, IllegalStateException`", () -> {
            Bounds.refused(Benches.INDEX, Bounds::rich, "no slot, no count", b -> b.offerDrawn(4, 0, 61));
            Bounds.refused(Benches.INDEX, Bounds::rich, "no slot, no count", b -> b.offerDrawn(-1, 0, -1));
            Bounds.refused(Benches.ARGUMENT, Bounds::rich, "61 for an empty slot", b -> b.offerDrawn(3, 0, 61));
            Bounds.refused(Benches.ARGUMENT, Bounds::rich, "-1 for an empty slot", b -> b.offerDrawn(3, 0, -1));
            Bounds.refused(Benches.ARGUMENT, () -> Bounds.drawn(0, 3, 0, 60), "61 for a full one",
                    b -> b.offerDrawn(0, 0, 61));
        });
        Document.says("For each of them, s, at first the given number, becomes s * 1103515245 + 12345, with overflow, "
                + "and with r = s >>> 8: the key is r % 100, the stratum r / 100 % 4, the weight r / 400 % 99 + 1, and "
                + "the value r % 1999 - 999.", () -> {
            // Here r is 0, 0 (s is 255), 1, 99, 1998, 1999, 39599, 39600, 8388607, 8388608 and 16777215 (s is -1).
            drawnIs("0,0,1,-999", -59267453);
            drawnIs("0,0,1,-999", -945217506);
            drawnIs("1,0,1,-998", -1235022973);
            drawnIs("99,0,1,-900", -494946941);
            drawnIs("98,3,5,999", 128314499);
            drawnIs("99,3,5,-999", -1047441021);
            drawnIs("99,3,99,619", -1356615293);
            drawnIs("0,0,1,620", 1762596483);
            drawnIs("7,2,83,-196", -1916945634);
            drawnIs("8,2,83,-195", 2088216195);
            drawnIs("15,0,67,608", 230538014);
        });
        Document.says("- `start`: the number with which s begins", () -> {
            for (int start : new int[] {Bounds.LEAST, -1, 0, 1, Bounds.MOST}) {
                SampleBench bench = Bounds.noItems(0);
                bench.offerDrawn(0, start, 60);
                for (int what = 1; what < 5; what++) {
                    Check.same("60 items from " + start, Benches.kept(bench, 0, what), drawnParts(start, what));
                }
            }
        });
        Document.says("- `count`: the number of items, 0 to 60", () -> {
            Bounds.answers(0, () -> Bounds.noItems(0), "none", b -> b.offerDrawn(0, 1, 0));
            Bounds.answers(1, () -> Bounds.noItems(0), "one", b -> b.offerDrawn(0, 1, 1));
            Bounds.answers(60, () -> Bounds.noItems(0), "60", b -> b.offerDrawn(0, 1, 60));
            SampleBench bench = Bounds.rich();
            bench.offerDrawn(0, 1, 0);
            Check.answers(9, "undo of none, which is a change", bench::undo);
            Check.same("what was there", Check.seen(bench), Check.seen(Bounds.rich()));
        });
        Document.says("Returns the number of items that the summary keeps then.", () -> {
            Bounds.answers(8, Bounds::rich, "none to eight", b -> b.offerDrawn(0, 1, 0));
            Bounds.answers(60, Bounds::rich, "52 to eight", b -> b.offerDrawn(0, 1, 52));
            Bounds.answers(2, Bounds::rich, "60 to a span of 2", b -> b.offerDrawn(1, 1, 60));
            Bounds.answers(40, () -> Bounds.drawn(0, 3, 40, 39), "one to 39", b -> b.offerDrawn(0, 1, 1));
            Bounds.answers(40, () -> Bounds.drawn(0, 3, 40, 39), "two to 39", b -> b.offerDrawn(0, 1, 2));
        });
        Document.says(Document.NO_SLOT, () -> Bounds.noSuchSlot((b, slot) -> b.offerDrawn(slot, 1, 1)));
        Document.says("Throws `IllegalArgumentException` if the count is out of range",
                () -> Bounds.outside(Benches.ARGUMENT, () -> Bounds.noItems(2), "count", 0, 60,
                        (b, n) -> b.offerDrawn(0, 1, n)));
        Document.says("Throws `IllegalStateException` if the slot is empty, or its summary has the span 0 and would "
                + "keep more than 60 items", () -> {
            Bounds.emptySlot((b, slot) -> b.offerDrawn(slot, 1, 1));
            Bounds.emptySlot((b, slot) -> b.offerDrawn(slot, 1, 0));
            Bounds.refused(Benches.STATE, Bounds::rich, "53 to eight", b -> b.offerDrawn(0, 1, 53));
            Bounds.refused(Benches.STATE, () -> Bounds.drawn(0, 3, 0, 60), "one to 60", b -> b.offerDrawn(0, 1, 1));
            Bounds.refused(Benches.STATE, () -> Bounds.drawn(0, 3, 0, 1), "60 to one", b -> b.offerDrawn(0, 1, 60));
            Bounds.answers(60, () -> Bounds.drawn(0, 3, 0, 60), "none to 60", b -> b.offerDrawn(0, 1, 0));
            Bounds.answers(60, () -> Bounds.drawn(0, 3, 0, 59), "one to 59", b -> b.offerDrawn(0, 1, 1));
            Bounds.answers(40, () -> Bounds.drawn(0, 3, 40, 40), "60 to 40 of a span", b -> b.offerDrawn(0, 1, 60));
        });
    }

    private static void drawnIs(String due, int start) {
        SampleBench bench = Bounds.noItems(0);
        bench.offerDrawn(0, start, 1);
        Check.same("drawn from " + start, Benches.written(bench, 0), "0/3/7/0;0," + due);
    }

    // The same in numbers without a sign, of which 32 bits are left each time.
    private static String drawnParts(int start, int what) {
        StringBuilder row = new StringBuilder();
        long s = start & 0xFFFFFFFFL;
        for (int i = 0; i < 60; i++) {
            s = (s * 1103515245L + 12345L) % 4294967296L;
            long r = s / 256;
            long[] parts = {i, r % 100, r / 100 % 4, r / 400 % 99 + 1, r % 1999 - 999};
            row.append(i == 0 ? "" : " ").append(parts[what]);
        }
        return row.toString();
    }

    private static void summary() {
        Document.section("Promise 6: summary");
        Document.isPlain("Returns a number about a summary.", "- `slot`: the slot", "Returns the number.");
        Document.says("`int summary(int slot, int what) throws IndexOutOfBoundsException, IllegalArgumentException, "
                + "IllegalStateException`", () -> {
            Bounds.refused(Benches.INDEX, Bounds::rich, "no slot, no what", b -> b.summary(4, 8));
            Bounds.refused(Benches.INDEX, Bounds::rich, "no slot, no what", b -> b.summary(-1, -1));
            Bounds.refused(Benches.ARGUMENT, Bounds::rich, "8 of an empty slot", b -> b.summary(3, 8));
            Bounds.refused(Benches.ARGUMENT, Bounds::rich, "-1 of an empty slot", b -> b.summary(3, -1));
        });
        Document.says("- `what`: 0 the kind; 1 the size; 2 the seed; 3 the span; 4 the number of kept items; 5 the "
                + "number of items of the sample; 6: 1 if the sample is complete, otherwise 0, for kind 2 if it "
                + "contains all kept items; 7 the number of different keys of the kept items",
                SummariesBounds::numbersOfSummaries);
        Document.says(Document.NO_SLOT, () -> Bounds.noSuchSlot((b, slot) -> b.summary(slot, 0)));
        Document.says(Document.NO_WHAT,
                () -> Bounds.outside(Benches.ARGUMENT, Bounds::rich, "what", 0, 7, (b, n) -> b.summary(0, n)));
        Document.says(Document.EMPTY, () -> {
            for (int what = 0; what < 8; what++) {
                int which = what;
                Bounds.emptySlot((b, slot) -> b.summary(slot, which));
            }
        });
    }

    private static String summaryOf(SampleBench bench) {
        StringBuilder row = new StringBuilder();
        for (int what = 0; what < 8; what++) {
            row.append(what == 0 ? "" : " ").append(bench.summary(0, what));
        }
        return row.toString();
    }

    private static void numbersOfSummaries() {
        for (int kind = 0; kind < 4; kind++) {
            Check.same("no items", summaryOf(Bounds.noItems(kind)), kind + " 3 7 0 0 0 1 0");
        }
        SampleBench greatest = new SampleBench();
        greatest.define(0, 3, 12, Bounds.MOST, 40);
        Check.same("the greatest", summaryOf(greatest), "3 12 2147483647 40 0 0 1 0");
        greatest.define(0, 0, 1, Bounds.LEAST, 0);
        Check.same("the least", summaryOf(greatest), "0 1 -2147483648 0 0 0 1 0");
        Check.same("all but one of the sample", summaryOf(Benches.eight(0, 7)), "0 7 7 0 8 7 0 6");
        Check.same("just all", summaryOf(Benches.eight(0, 8)), "0 8 7 0 8 8 1 6");
        Check.same("kind 3, all but one candidate", summaryOf(Benches.eight(3, 5)), "3 5 7 0 8 5 0 6");
        Check.same("kind 3, all candidates", summaryOf(Benches.eight(3, 6)), "3 6 7 0 8 6 1 6");
        Check.same("kind 2, all kept items", summaryOf(Bounds.stratified(2, 2, 2, 2)), "2 1 7 0 8 8 1 6");
        Check.same("kind 2, all but one", summaryOf(Bounds.stratified(2, 2, 2, 1)), "2 1 7 0 8 7 0 6");
        Check.same("kind 2, none", summaryOf(Bounds.stratified(0, 0, 0, 0)), "2 1 7 0 8 0 0 6");
        Check.same("one key", Benches.read("0/3/7/0;0,99,0,1,1;1,99,0,1,1").summary(0, 7), 1);
        Check.same("two keys", Benches.read("0/3/7/0;0,99,0,1,1;1,0,0,1,1").summary(0, 7), 2);
        Check.same("a full list", Bounds.drawn(0, 12, 0, 60).summary(0, 4), 60);
    }

    private static void setQuota() {
        Document.section("Promise 7: setQuota");
        Document.isPlain("Sets the quota of a stratum.", "- `slot`: the slot", "- `stratum`: the stratum");
        Document.says("`int setQuota(int slot, int stratum, int quota) throws IndexOutOfBoundsException, "
                + "IllegalArgumentException, IllegalStateException`", () -> {
            Bounds.refused(Benches.INDEX, Bounds::rich, "no slot, no quota", b -> b.setQuota(4, 0, 13));
            Bounds.refused(Benches.INDEX, Bounds::rich, "no stratum, no quota", b -> b.setQuota(0, 4, -1));
            Bounds.refused(Benches.INDEX, Bounds::rich, "no stratum, empty", b -> b.setQuota(3, -1, 1));
            Bounds.refused(Benches.ARGUMENT, Bounds::rich, "no quota, empty", b -> b.setQuota(3, 0, 13));
            Bounds.refused(Benches.ARGUMENT, Bounds::rich, "no quota, empty", b -> b.setQuota(3, 0, -1));
        });
        Document.says("- `quota`: the quota, 0 to 12", () -> {
            SampleBench bench = Benches.eight(2, 3);
            bench.setQuota(0, 0, 0);
            bench.setQuota(0, 3, 12);
            Check.same("the quotas", Benches.quotas(bench, 0), "0 3 3 12");
            Check.same("the sample", Benches.sampled(bench, 0, 0), "5 1 2 6 3 7");
        });
        Document.says("Returns the previous quota.", () -> {
            SampleBench bench = Benches.eight(0, 12);
            Check.answers(12, "the size", () -> bench.setQuota(0, 3, 0));
            Check.answers(0, "the least", () -> bench.setQuota(0, 3, 0));
            Check.answers(0, "the least again", () -> bench.setQuota(0, 3, 12));
            Check.answers(12, "the greatest", () -> bench.setQuota(0, 3, 1));
            Check.same("the others stay", Benches.quotas(bench, 0), "12 12 12 1");
        });
        Document.says("Throws `IndexOutOfBoundsException` if there is no such slot or stratum", () -> {
            Bounds.noSuchSlot((b, slot) -> b.setQuota(slot, 0, 1));
            Bounds.outside(Benches.INDEX, Bounds::rich, "stratum", 0, 3, (b, n) -> b.setQuota(0, n, 1));
        });
        Document.says("Throws `IllegalArgumentException` if the quota is out of range",
                () -> Bounds.outside(Benches.ARGUMENT, Bounds::rich, "quota", 0, 12, (b, n) -> b.setQuota(1, 3, n)));
        Document.says(Document.EMPTY, () -> Bounds.emptySlot((b, slot) -> b.setQuota(slot, 0, 1)));
    }

    private static void allocate() {
        Document.section("Promise 8: allocate");
        Document.isPlain("- `slot`: the slot", "- `byWeight`: true for the sums of weights, false for the numbers of "
                + "items");
        Document.says("`int allocate(int slot, int total, boolean byWeight) throws IndexOutOfBoundsException, "
                + "IllegalArgumentException, IllegalStateException, ArithmeticException`", () -> {
            Bounds.refused(Benches.INDEX, Bounds::rich, "no slot, no total", b -> b.allocate(4, 13, true));
            Bounds.refused(Benches.ARGUMENT, Bounds::rich, "no total, empty", b -> b.allocate(3, -1, false));
            Bounds.refused(Benches.ARGUMENT, Bounds::rich, "no total, no items", b -> b.allocate(2, 13, true));
            Bounds.refused(Benches.STATE, Bounds::rich, "empty", b -> b.allocate(3, 0, true));
        });
        Document.says("Allocates the quotas of a summary in proportion to the numbers of kept items, or to the sums of "
                + "their weights, of the strata: the share of a stratum is the total times its number, divided by the "
                + "sum of these numbers; each quota is the share rounded down, and the strata with the greatest "
                + "remainders of the division, of several the lowest one, get one more each, until the quotas add up "
                + "to the total.", SummariesBounds::shares);
        Document.says("- `total`: the total, 0 to 12", () -> {
            String[] due = {"0 0 0 0", "1 0 0 0", "1 1 0 0", "1 1 1 0", "1 1 1 1", "2 1 1 1", "2 2 1 1", "2 2 2 1",
                "2 2 2 2", "3 2 2 2", "3 3 2 2", "3 3 3 2", "3 3 3 3"};
            for (int total = 0; total <= 12; total++) {
                Check.same("a total of " + total, allocated(Benches.eight(2, 5), total, false), due[total]);
            }
        });
        Document.says("Returns the quota of stratum 0.", () -> {
            Bounds.answers(0, () -> Benches.eight(0, 5), "nothing", b -> b.allocate(0, 0, false));
            Bounds.answers(3, () -> Benches.eight(0, 5), "a quarter", b -> b.allocate(0, 12, false));
            Bounds.answers(12, () -> Benches.read("2/3/7/0;0,1,0,1,1"), "all", b -> b.allocate(0, 12, true));
            Bounds.answers(0, () -> Benches.read("2/3/7/0;0,1,3,1,1"), "none", b -> b.allocate(0, 12, true));
        });
        Document.says(Document.NO_SLOT, () -> Bounds.noSuchSlot((b, slot) -> b.allocate(slot, 1, true)));
        Document.says("Throws `IllegalArgumentException` if the total is out of range",
                () -> Bounds.outside(Benches.ARGUMENT, Bounds::rich, "total", 0, 12, (b, n) -> b.allocate(0, n, true)));
        Document.says(Document.EMPTY, () -> {
            Bounds.emptySlot((b, slot) -> b.allocate(slot, 1, true));
            Bounds.emptySlot((b, slot) -> b.allocate(slot, 0, false));
        });
        Document.says("Throws `ArithmeticException` if the summary keeps no items", () -> {
            for (int total : new int[] {0, 1, 12}) {
                Bounds.refused(Benches.ARITHMETIC, Bounds::rich, "by weight", b -> b.allocate(2, total, true));
                Bounds.refused(Benches.ARITHMETIC, Bounds::rich, "by number", b -> b.allocate(2, total, false));
            }
            Bounds.answers(1, () -> Benches.read("0/3/7/0;0,1,0,1,1"), "one item", b -> b.allocate(0, 1, true));
        });
    }

    private static String allocated(SampleBench bench, int total, boolean byWeight) {
        bench.allocate(0, total, byWeight);
        return Benches.quotas(bench, 0);
    }

    private static void shares() {
        // By weights, the numbers are 60, 80, 100 and 139 of 379.
        String[] due = {"0 0 0 0", "0 0 0 1", "0 0 1 1", "0 1 1 1", "1 1 1 1", "1 1 1 2"};
        for (int total = 0; total < due.length; total++) {
            Check.same("by weights, a total of " + total, allocated(Benches.eight(2, 5), total, true), due[total]);
        }
        Check.same("by weights, a total of 12", allocated(Benches.eight(2, 5), 12, true), "2 3 3 4");
        Check.same("no remainders", allocated(strata("0123"), 12, false), "3 3 3 3");
        Check.same("a remainder of 0 gets none", allocated(strata("0012"), 2, false), "1 1 0 0");
        Check.same("equal remainders, but not of stratum 0", allocated(strata("01122"), 1, false), "0 1 0 0");
        Check.same("equal remainders for two", allocated(strata("01122"), 2, false), "0 1 1 0");
        Check.same("equal remainders of 0 and 3", allocated(strata("0333"), 2, false), "1 0 0 1");
        Check.same("strata without items get none", allocated(strata("13"), 11, false), "0 6 0 5");
        Check.same("one stratum gets all", allocated(strata("2"), 12, false), "0 0 12 0");
        Check.same("quotas that were set are no matter", allocated(Bounds.stratified(12, 0, 12, 1), 4, false),
                "1 1 1 1");
        SampleBench again = Benches.eight(2, 5);
        Check.same("allocated once", allocated(again, 5, true), "1 1 1 2");
        Check.same("allocated again, by numbers", allocated(again, 5, false), "2 1 1 1");
        Check.same("allocated again, by weights", allocated(again, 5, true), "1 1 1 2");
        SampleBench heavy = new SampleBench();
        heavy.define(0, 2, 3, 7, 0);
        for (int i = 0; i < 60; i++) {
            heavy.offer(0, 0, i < 59 ? 3 : 0, i < 59 ? 99 : 1, 0);
        }
        Check.same("60 items with the greatest weights", allocated(heavy, 12, true), "0 0 0 12");
    }

    private static SampleBench strata(String digits) {
        SampleBench bench = Bounds.noItems(2);
        for (char digit : digits.toCharArray()) {
            bench.offer(0, 0, digit - '0', 1, 0);
        }
        return bench;
    }

    private static void quota() {
        Document.section("Promise 9: quota");
        Document.isPlain("- `slot`: the slot", "- `stratum`: the stratum", "Returns the quota.");
        Document.says("`int quota(int slot, int stratum) throws IndexOutOfBoundsException, "
                + "IllegalStateException`", () -> {
            Bounds.refused(Benches.INDEX, Bounds::rich, "no stratum, empty", b -> b.quota(3, 4));
            Bounds.refused(Benches.INDEX, Bounds::rich, "no stratum, empty", b -> b.quota(3, -1));
        });
        Document.says("Returns the quota of a stratum.", () -> {
            SampleBench bench = Bounds.stratified(0, 1, 11, 12);
            for (int stratum = 0; stratum < 4; stratum++) {
                Check.same("stratum " + stratum, bench.quota(0, stratum), new int[] {0, 1, 11, 12}[stratum]);
            }
        });
        Document.says("Throws `IndexOutOfBoundsException` if there is no such slot or stratum", () -> {
            Bounds.noSuchSlot((b, slot) -> b.quota(slot, 0));
            Bounds.outside(Benches.INDEX, Bounds::rich, "stratum", 0, 3, (b, n) -> b.quota(0, n));
        });
        Document.says(Document.EMPTY, () -> Bounds.emptySlot((b, slot) -> b.quota(slot, 3)));
    }

    /** Two summaries of the kind 0, the size 3 and the seed 7 with these spans and counts of drawn items. */
    private static SampleBench pair(int fromSpan, int fromCount, int toSpan, int toCount) {
        SampleBench bench = Bounds.drawn(0, 3, fromSpan, fromCount);
        bench.define(1, 0, 3, 7, toSpan);
        bench.offerDrawn(1, 9, toCount);
        return bench;
    }

    private static void merge() {
        Document.section("Promise 10: merge");
        Document.isPlain("- `from`: the slot of the first summary", "- `to`: the slot of the other one");
        Document.says("`int merge(int from, int to) throws IndexOutOfBoundsException, IllegalStateException, "
                + "UnsupportedOperationException`", () -> {
            Bounds.refused(Benches.INDEX, Bounds::rich, "from an empty slot into none", b -> b.merge(3, 4));
            Bounds.refused(Benches.INDEX, Bounds::rich, "from none into an empty slot", b -> b.merge(-1, 3));
            Bounds.refused(Benches.STATE, Bounds::rich, "what differs, and is empty", b -> b.merge(0, 3));
        });
        Document.says("Merges a summary into another one: the kept items of the first one that the other does not "
                + "keep, by their numbers, are put into its list in ascending order of numbers; then, if its span is "
                + "not 0, items are removed from the beginning until the list is as long as the span.",
                SummariesBounds::mergedLists);
        Document.says("The first one stays.", () -> {
            SampleBench bench = pair(5, 7, 0, 3);
            String before = Benches.written(bench, 0);
            bench.merge(0, 1);
            Check.same("its text", Benches.written(bench, 0), before);
            bench.merge(1, 1);
            bench.offer(1, 1, 1, 1, 1);
            Check.same("its text", Benches.written(bench, 0), before);
        });
        Document.says("Returns the number of items that the other one keeps then.", () -> {
            Bounds.answers(0, () -> pair(0, 0, 0, 0), "none into none", b -> b.merge(0, 1));
            Bounds.answers(1, () -> pair(0, 1, 0, 0), "one into none", b -> b.merge(0, 1));
            Bounds.answers(1, () -> pair(0, 0, 0, 1), "none into one", b -> b.merge(0, 1));
            Bounds.answers(60, () -> pair(0, 30, 0, 30), "30 into 30", b -> b.merge(0, 1));
            Bounds.answers(1, () -> pair(0, 60, 1, 0), "60 into a span of 1", b -> b.merge(0, 1));
            Bounds.answers(40, () -> pair(0, 60, 40, 40), "60 into a full span", b -> b.merge(0, 1));
            Bounds.answers(39, () -> pair(0, 19, 40, 20), "19 into 20 of a span", b -> b.merge(0, 1));
        });
        Document.says(Document.NO_SLOT, () -> {
            Bounds.noSuchSlot((b, slot) -> b.merge(slot, 0));
            Bounds.noSuchSlot((b, slot) -> b.merge(0, slot));
        });
        Document.says(Document.ONE_EMPTY, () -> {
            Bounds.emptySlot((b, slot) -> b.merge(slot, slot));
            Bounds.refused(Benches.STATE, Bounds::rich, "from an empty slot", b -> b.merge(3, 2));
            Bounds.refused(Benches.STATE, Bounds::rich, "into an empty slot", b -> b.merge(2, 3));
        });
        Document.says("Throws `UnsupportedOperationException` if both summaries do not have the same kind, size and "
                + "seed, or the span of the other one is 0 and it would keep more than 60 items",
                SummariesBounds::mergesRefused);
    }

    private static void mergedLists() {
        String low = "0/3/7/0;1,1,1,1,1;4,1,1,1,1;5,1,1,1,1";
        String[][] due = {
            {"0/3/7/0;0,2,2,2,2", "0 1 4 5"}, {"0/3/7/0;6,2,2,2,2", "1 4 5 6"}, {"0/3/7/0;4,2,2,2,2", "1 4 5"},
            {"0/3/7/0;2,2,2,2,2;3,2,2,2,2", "1 2 3 4 5"}, {"0/3/7/0", "1 4 5"},
            {"0/3/7/40;0,2,2,2,2;1,2,2,2,2;9,2,2,2,2", "0 1 4 5 9"},
        };
        for (String[] d : due) {
            SampleBench bench = Benches.read(low);
            Check.feed(bench, d[0]);
            bench.read(1);
            bench.merge(1, 0);
            Check.same("merge of " + d[0], Benches.kept(bench, 0, 0), d[1]);
            Check.same("the own items", Benches.kept(bench, 0, 1).replace(" ", "").replace("2", ""), "111");
        }
        String[] kept = {"0 1 2 3 4 5", "5", "4 5", "3 4 5", "2 3 4 5", "1 2 3 4 5", "0 1 2 3 4 5", "0 1 2 3 4 5"};
        for (int span = 0; span < kept.length; span++) {
            SampleBench bench = pair(0, 3, span, 3);
            bench.merge(0, 1);
            Check.same("three and three, span " + span, Benches.kept(bench, 1, 0), kept[span]);
        }
        SampleBench older = pair(0, 3, 2, 3);
        older.merge(0, 1);
        Check.same("older items that don't fit", Benches.kept(older, 1, 0), "4 5");
        SampleBench newer = pair(2, 3, 0, 3);
        newer.merge(1, 0);
        Check.same("newer items that take the place", Benches.kept(newer, 0, 0), "4 5");
        SampleBench quotas = pair(0, 3, 0, 3);
        quotas.setQuota(0, 0, 12);
        quotas.setQuota(1, 1, 0);
        quotas.merge(0, 1);
        Check.same("quotas and span of the other one stay", Benches.quotas(quotas, 1) + " " + quotas.summary(1, 3),
                "3 0 3 3 0");
    }

    private static void mergesRefused() {
        int[][] others = {{1, 3, 7}, {0, 2, 7}, {0, 4, 7}, {0, 3, 6}, {0, 3, 8}, {0, 3, -7}, {3, 12, 0}};
        for (int[] o : others) {
            Function<SampleBench, SampleBench> with = b -> {
                b.define(2, o[0], o[1], o[2], 0);
                return b;
            };
            Bounds.refused(Benches.UNSUPPORTED, () -> with.apply(pair(0, 1, 0, 1)), "from " + o[0] + o[1] + o[2],
                    b -> b.merge(2, 0));
            Bounds.refused(Benches.UNSUPPORTED, () -> with.apply(pair(0, 1, 0, 1)), "into " + o[0] + o[1] + o[2],
                    b -> b.merge(0, 2));
        }
        Bounds.answers(2, () -> pair(40, 1, 0, 1), "another span", b -> b.merge(0, 1));
        Bounds.refused(Benches.UNSUPPORTED, () -> pair(0, 31, 0, 30), "31 into 30", b -> b.merge(0, 1));
        Bounds.refused(Benches.UNSUPPORTED, () -> pair(0, 1, 0, 60), "one into 60", b -> b.merge(0, 1));
        Bounds.answers("UnsupportedOperationException", () -> pair(0, 60, 0, 60), "60 into 60", b -> b.merge(0, 1));
        Bounds.refused(Benches.UNSUPPORTED, () -> pair(40, 60, 0, 21), "40 of a span into 21", b -> b.merge(0, 1));
        Bounds.answers(60, () -> pair(40, 60, 0, 20), "40 of a span into 20", b -> b.merge(0, 1));
        Bounds.answers(60, () -> pair(0, 0, 0, 60), "none into 60", b -> b.merge(0, 1));
        Bounds.answers(60, () -> pair(0, 60, 0, 60), "60 into themselves", b -> b.merge(1, 1));
        Bounds.answers(60, () -> pair(0, 60, 0, 60), "60 into a copy of them", b -> {
            b.copy(0, 1);
            return b.merge(0, 1);
        });
        Bounds.answers(40, () -> pair(0, 60, 40, 60), "100 into a span of 40", b -> b.merge(0, 1));
    }

    private static void copy() {
        Document.section("Promise 11: copy");
        Document.isPlain("- `from`: the slot of the summary");
        Document.says("`int copy(int from, int to) throws IndexOutOfBoundsException, IllegalStateException`", () -> {
            Bounds.refused(Benches.INDEX, Bounds::rich, "an empty slot into none", b -> b.copy(3, 4));
            Bounds.refused(Benches.INDEX, Bounds::rich, "an empty slot into none", b -> b.copy(3, -1));
        });
        Document.says("Copies a summary into another slot, in place of what is there.", () -> {
            for (int to = 1; to < 4; to++) {
                SampleBench bench = Bounds.rich();
                bench.setQuota(0, 3, 0);
                bench.copy(0, to);
                Check.same("the copy in slot " + to, Benches.written(bench, to), Benches.written(bench, 0));
                Check.same("its quotas", Benches.quotas(bench, to), "3 3 3 0");
                bench.setQuota(to, 3, 12);
                bench.offer(to, 1, 1, 1, 1);
                Check.same("the first one then", bench.summary(0, 4) + " " + Benches.quotas(bench, 0), "8 3 3 3 0");
            }
            SampleBench none = Bounds.rich();
            none.copy(2, 0);
            Check.same("a summary without items", Benches.written(none, 0), "3/5/7/0");
        });
        Document.says("- `to`: the other slot, possibly the same", () -> {
            SampleBench bench = Bounds.rich();
            Check.answers(8, "into the same", () -> bench.copy(0, 0));
            Check.same("all is the same", Check.seen(bench), Check.seen(Bounds.rich()));
            Check.answers(9, "undo of it, which is a change", bench::undo);
            Check.same("all is the same then", Check.seen(bench), Check.seen(Bounds.rich()));
        });
        Document.says("Returns the number of items that are kept.", () -> {
            for (int count : new int[] {0, 1, 60}) {
                Bounds.answers(count, () -> Bounds.drawn(0, 3, 0, count), count + " items", b -> b.copy(0, 3));
            }
            Bounds.answers(2, Bounds::rich, "a span of 2 in place of eight", b -> b.copy(1, 0));
        });
        Document.says(Document.NO_SLOT, () -> {
            Bounds.noSuchSlot((b, slot) -> b.copy(slot, 0));
            Bounds.noSuchSlot((b, slot) -> b.copy(0, slot));
        });
        Document.says("Throws `IllegalStateException` if the first slot is empty", () -> {
            Bounds.emptySlot((b, slot) -> b.copy(slot, 1));
            Bounds.emptySlot((b, slot) -> b.copy(slot, slot));
            Bounds.answers(8, Bounds::rich, "the other slot may be empty", b -> b.copy(0, 3));
        });
    }
}
