/** The boundary cases of the promises 20 to 26: estimates, true numbers, and what two samples have in common. */
final class EstimatesBounds {
    private EstimatesBounds() {
    }

    static void test() {
        estimateKeys();
        estimate();
        truth();
        quantile();
        resampled();
        distance();
        common();
    }

    private static void estimateKeys() {
        Document.section("Promise 20: estimateKeys");
        Document.isPlain("- `slot`: the slot", "- `ofWeights`: true for weights, false for values",
                "Returns the estimate.");
        Document.says("`long estimateKeys(int slot, int low, int high, boolean ofWeights) throws "
                + "IndexOutOfBoundsException, IllegalStateException`", () -> {
            Bounds.answers("IndexOutOfBoundsException", Bounds::rich, "no slot", b -> b.estimateKeys(4, 9, 0, true));
            Bounds.answers(0L, Bounds::rich, "no keys of this kind", b -> b.estimateKeys(0, -5, -1, true));
        });
        Document.says("Returns an estimated total of a part of the keys: it is found as in estimate, but the number "
                + "that is totalled is 0 for items whose keys are outside of a range.", () -> {
            keysAre(0, 3, 0, 99, 285, 397);
            keysAre(0, 3, 0, 98, 285, 397);
            keysAre(0, 3, 1, 99, 288, 133);
            keysAre(1, 7, 0, 99, 304, 378);
            keysAre(1, 7, 1, 99, 305, 279);
            keysAre(1, 7, 0, 98, 304, 308);
            keysAre(2, 1, 0, 99, -1768, 280);
            keysAre(2, 1, 5, 9, 230, 160);
            keysAre(3, 5, 0, 99, 119, 347);
            keysAre(3, 5, 1, 99, 120, 228);
            keysAre(3, 5, 0, 98, 119, 263);
            keysAre(0, 3, 10, 99, 0, 0);
            Check.same("no items", Bounds.noItems(0).estimateKeys(0, 0, 99, true), 0);
            Check.same("an empty sample", Bounds.stratified(0, 0, 0, 0).estimateKeys(0, 0, 99, true), 0);
        });
        // The keys of the sample of kind 0 and size 3 are 9, 5 and 0, those of kind 1 and size 7 all but one 5.
        Document.says("- `low`: the lowest key of the range", () -> {
            keysAre(0, 3, 5, 9, 288, 133);
            keysAre(0, 3, 6, 9, 21, 107);
            keysAre(0, 3, 0, 0, -3, 264);
            keysAre(0, 3, Bounds.LEAST, 99, 285, 397);
            keysAre(1, 7, 99, 99, 0, 70);
            keysAre(1, 7, 100, Bounds.MOST, 0, 0);
            keysAre(1, 7, 30, 99, -999, 130);
            keysAre(1, 7, 31, 99, 0, 70);
        });
        Document.says("- `high`: the highest key, which may be less than low; then the range is empty", () -> {
            keysAre(0, 3, 5, 8, 267, 27);
            keysAre(0, 3, 0, Bounds.MOST, 285, 397);
            keysAre(0, 3, -5, -1, 0, 0);
            keysAre(1, 7, 20, 29, 999, 50);
            keysAre(3, 5, 20, 29, 1199, 60);
            for (int kind = 0; kind < 4; kind++) {
                keysAre(kind, 3, 9, 9 - 1, 0, 0);
                keysAre(kind, 3, 99, 0, 0, 0);
                keysAre(kind, 3, Bounds.MOST, Bounds.LEAST, 0, 0);
            }
            keysAre(0, 3, 9, 9, 21, 107);
        });
        Document.says(Document.NO_SLOT, () -> Bounds.noSuchSlot((b, slot) -> b.estimateKeys(slot, 0, 99, true)));
        Document.says(Document.EMPTY, () -> {
            Bounds.emptySlot((b, slot) -> b.estimateKeys(slot, 0, 99, true));
            Bounds.emptySlot((b, slot) -> b.estimateKeys(slot, 9, 0, false));
        });
    }

    private static void keysAre(int kind, int size, int low, int high, long values, long weights) {
        SampleBench bench = Benches.eight(kind, size);
        String what = "kind " + kind + ", size " + size + ", keys " + low + " to " + high;
        Check.same(what, bench.estimateKeys(0, low, high, false) + " " + bench.estimateKeys(0, low, high, true),
                values + " " + weights);
    }

    private static void estimate() {
        Document.section("Promise 21: estimate");
        Document.isPlain("Returns an estimate.", "- `slot`: the slot", "Returns the estimate.");
        Document.says("`long estimate(int slot, int what) throws IndexOutOfBoundsException, IllegalArgumentException, "
                + "IllegalStateException`", () -> {
            Bounds.refused(Benches.INDEX, Bounds::rich, "no slot, no what", b -> b.estimate(4, 3));
            Bounds.refused(Benches.INDEX, Bounds::rich, "no slot, no what", b -> b.estimate(-1, -1));
            Bounds.refused(Benches.ARGUMENT, Bounds::rich, "no what, empty", b -> b.estimate(3, 3));
        });
        Document.says("- `what`: 0 the estimated count, 1 the estimated total of values, 2 the estimated total of "
                + "weights", () -> {
            Bounds.answers(6L, () -> Benches.eight(3, 5), "0", b -> b.estimate(0, 0));
            Bounds.answers(119L, () -> Benches.eight(3, 5), "1", b -> b.estimate(0, 1));
            Bounds.answers(347L, () -> Benches.eight(3, 5), "2", b -> b.estimate(0, 2));
        });
        Document.says(Document.NO_SLOT, () -> Bounds.noSuchSlot((b, slot) -> b.estimate(slot, 0)));
        Document.says(Document.NO_WHAT, () -> Bounds.outside(Benches.ARGUMENT, Bounds::rich, "what", 0, 2,
                (b, n) -> b.estimate(0, n)));
        Document.says(Document.EMPTY, () -> {
            Bounds.emptySlot((b, slot) -> b.estimate(slot, 0));
            Bounds.emptySlot((b, slot) -> b.estimate(slot, 1));
            Bounds.emptySlot((b, slot) -> b.estimate(slot, 2));
        });
    }

    private static void truth() {
        Document.section("Promise 22: truth");
        Document.isPlain("Returns a true number of the kept items, which an estimate stands for.", "- `slot`: the slot",
                "Returns the number.");
        Document.says("`long truth(int slot, int what) throws IndexOutOfBoundsException, IllegalArgumentException, "
                + "IllegalStateException`", () -> {
            Bounds.refused(Benches.INDEX, Bounds::rich, "no slot, no what", b -> b.truth(4, 3));
            Bounds.refused(Benches.INDEX, Bounds::rich, "no slot, no what", b -> b.truth(-1, -1));
            Bounds.refused(Benches.ARGUMENT, Bounds::rich, "no what, empty", b -> b.truth(3, 3));
        });
        Document.says("- `what`: 0 the number of kept items, or for kind 3 that of their different keys; 1 the total "
                + "of the values of all kept items, or for kind 3 of all candidates; 2 the total of weights likewise",
                () -> {
            for (int kind = 0; kind < 4; kind++) {
                Check.same("no items", truths(Bounds.noItems(kind)), "0 0 0");
                Check.same("size 1", truths(Benches.eight(kind, 1)), kind == 3 ? "6 106 319" : "8 64 379");
                Check.same("size 12", truths(Benches.eight(kind, 12)), kind == 3 ? "6 106 319" : "8 64 379");
                Check.same("60 items of a key", truths(sixty(kind)), kind == 3 ? "1 -999 99" : "60 -59940 5940");
            }
            Check.same("quotas of 0", truths(Bounds.stratified(0, 0, 0, 0)), "8 64 379");
        });
        Document.says(Document.NO_SLOT, () -> Bounds.noSuchSlot((b, slot) -> b.truth(slot, 0)));
        Document.says(Document.NO_WHAT, () -> Bounds.outside(Benches.ARGUMENT, Bounds::rich, "what", 0, 2,
                (b, n) -> b.truth(0, n)));
        Document.says(Document.EMPTY, () -> {
            Bounds.emptySlot((b, slot) -> b.truth(slot, 0));
            Bounds.emptySlot((b, slot) -> b.truth(slot, 1));
            Bounds.emptySlot((b, slot) -> b.truth(slot, 2));
        });
    }

    private static String truths(SampleBench bench) {
        return bench.truth(0, 0) + " " + bench.truth(0, 1) + " " + bench.truth(0, 2);
    }

    private static SampleBench sixty(int kind) {
        SampleBench bench = Bounds.noItems(kind);
        for (int i = 0; i < 60; i++) {
            bench.offer(0, 99, 3, 99, -999);
        }
        return bench;
    }

    private static void quantile() {
        Document.section("Promise 23: quantile");
        Document.isPlain("- `slot`: the slot", "Returns the value.");
        Document.says("`int quantile(int slot, int permille) throws IndexOutOfBoundsException, "
                + "IllegalArgumentException, IllegalStateException, NoSuchElementException`", () -> {
            Bounds.refused(Benches.INDEX, Bounds::rich, "no slot, no permille", b -> b.quantile(4, 1001));
            Bounds.refused(Benches.ARGUMENT, Bounds::rich, "no permille, empty", b -> b.quantile(3, -1));
            Bounds.refused(Benches.ARGUMENT, Bounds::rich, "no permille, no items", b -> b.quantile(2, 1001));
            Bounds.refused(Benches.STATE, Bounds::rich, "empty", b -> b.quantile(3, 0));
        });
        Document.says("Returns a quantile of the values of the sample: with the values in ascending order, that with "
                + "the index s * permille / 1000, rounded down, but at most s - 1.", () -> {
            int[][] ofThree = {{0, -1}, {333, -1}, {334, 8}, {666, 8}, {667, 100}, {999, 100}, {1000, 100}};
            for (int[] d : ofThree) {
                Check.same("of three, " + d[0], Benches.eight(0, 3).quantile(0, d[0]), d[1]);
            }
            int[][] ofEight = {{0, -999}, {124, -999}, {125, -50}, {249, -50}, {250, -1}, {374, -1}, {375, 0}, {499, 0},
                {500, 7}, {624, 7}, {625, 8}, {749, 8}, {750, 100}, {874, 100}, {875, 999}, {999, 999}, {1000, 999}};
            for (int[] d : ofEight) {
                Check.same("of eight, " + d[0], Benches.eight(1, 12).quantile(0, d[0]), d[1]);
            }
            for (int permille : new int[] {0, 1, 500, 999, 1000}) {
                Check.same("of one, " + permille, Benches.eight(0, 1).quantile(0, permille), 8);
                Check.same("of equal ones, " + permille, sixty(2).quantile(0, permille), -999);
            }
        });
        Document.says("- `permille`: the permille, 0 to 1000", () -> {
            Bounds.answers(-1, () -> Benches.eight(0, 3), "0", b -> b.quantile(0, 0));
            Bounds.answers(100, () -> Benches.eight(0, 3), "1000", b -> b.quantile(0, 1000));
        });
        Document.says(Document.NO_SLOT, () -> Bounds.noSuchSlot((b, slot) -> b.quantile(slot, 0)));
        Document.says("Throws `IllegalArgumentException` if permille is out of range",
                () -> Bounds.outside(Benches.ARGUMENT, Bounds::rich, "permille", 0, 1000, (b, n) -> b.quantile(0, n)));
        Document.says(Document.EMPTY, () -> Bounds.emptySlot((b, slot) -> b.quantile(slot, 1000)));
        Document.says(Document.NO_SAMPLE, () -> emptySample(b -> b.quantile(0, 0)));
    }

    private static void emptySample(Bounds.Call call) {
        for (int kind = 0; kind < 4; kind++) {
            int which = kind;
            Bounds.refused(Benches.ELEMENT, () -> Bounds.noItems(which), "no items of kind " + kind, call);
        }
        Bounds.refused(Benches.ELEMENT, () -> Bounds.stratified(0, 0, 0, 0), "quotas of 0", call);
        Bounds.refused(Benches.ELEMENT, () -> {
            SampleBench bench = Benches.read("2/3/7/0;0,1,2,1,1");
            bench.setQuota(0, 2, 0);
            return bench;
        }, "a quota of 0 where the items are", call);
        SampleBench one = Bounds.stratified(0, 0, 0, 1);
        Check.same("a sample of one", "NoSuchElementException".equals(Check.outcome(() -> call.of(one))), false);
    }

    private static void resampled() {
        Document.section("Promise 24: resampled");
        Document.isPlain("- `slot`: the slot", "Returns the mean.");
        Document.says("`double resampled(int slot, int seed, int draws) throws IndexOutOfBoundsException, "
                + "IllegalArgumentException, IllegalStateException, NoSuchElementException`", () -> {
            Bounds.refused(Benches.INDEX, Bounds::rich, "no slot, no draws", b -> b.resampled(4, 1, 0));
            Bounds.refused(Benches.ARGUMENT, Bounds::rich, "no draws, empty", b -> b.resampled(3, 1, 0));
            Bounds.refused(Benches.ARGUMENT, Bounds::rich, "no draws, no items", b -> b.resampled(2, 1, 1001));
            Bounds.refused(Benches.STATE, Bounds::rich, "empty", b -> b.resampled(3, 1, 1));
        });
        Document.says("Returns the mean of resampled values: values of the sample are drawn, each time by z becoming z "
                + "* 1103515245 + 12345, with overflow, from the given seed on, as the value of the item of the sample "
                + "with the index (z >>> 8) % s; their sum, as a double, is divided by their number.", () -> {
            // With these seeds, z is at first -1, 0, 255 and 256.
            for (int seed : new int[] {230538014, -59267453, -945217506, -1235022973}) {
                meansAre(seed, 1, 2, 3, 8, 12);
            }
            Bounds.answers(66.33333333333333, () -> Benches.eight(0, 3), "199 / 3",
                    b -> b.resampled(0, Bounds.LEAST, 3));
            Bounds.answers(-999.0, () -> sixty(0), "1000 of the least", b -> b.resampled(0, 1, 1000));
            Bounds.answers(8.0, () -> Benches.eight(0, 1), "a sample of one", b -> b.resampled(0, -1, 1000));
        });
        Document.says("- `seed`: the seed", () -> {
            for (int seed : new int[] {Bounds.LEAST, -1, 0, 1, Bounds.MOST}) {
                meansAre(seed, 1, 3, 8);
            }
            Bounds.answers(35.208, () -> Benches.eight(0, 3), "the least", b -> b.resampled(0, Bounds.LEAST, 1000));
            Bounds.answers(32.847, () -> Benches.eight(0, 3), "the greatest", b -> b.resampled(0, Bounds.MOST, 1000));
        });
        Document.says("- `draws`: the number of draws, 1 to 1000", () -> {
            Bounds.answers(-1.0, () -> Benches.eight(0, 3), "one draw", b -> b.resampled(0, 4, 1));
            Bounds.answers(-1.0, () -> Benches.eight(0, 3), "two draws", b -> b.resampled(0, 4, 2));
            Bounds.answers(36.529529529529526, () -> Benches.eight(0, 3), "999 draws", b -> b.resampled(0, 4, 999));
            Bounds.answers(36.492, () -> Benches.eight(0, 3), "1000 draws", b -> b.resampled(0, 4, 1000));
        });
        Document.says(Document.NO_SLOT, () -> Bounds.noSuchSlot((b, slot) -> b.resampled(slot, 1, 1)));
        Document.says("Throws `IllegalArgumentException` if the number of draws is out of range",
                () -> Bounds.outside(Benches.ARGUMENT, Bounds::rich, "draws", 1, 1000, (b, n) -> b.resampled(0, 1, n)));
        Document.says(Document.EMPTY, () -> Bounds.emptySlot((b, slot) -> b.resampled(slot, 1, 1)));
        Document.says(Document.NO_SAMPLE, () -> emptySample(b -> b.resampled(0, 1, 1)));
    }

    // The same in numbers without a sign, of which 32 bits are left each time.
    private static void meansAre(int seed, int... sizes) {
        for (int size : sizes) {
            SampleBench bench = Bounds.drawn(0, size, 0, 20);
            for (int draws : new int[] {1, 2, 7, 100}) {
                long z = seed & 0xFFFFFFFFL;
                long sum = 0;
                for (int k = 0; k < draws; k++) {
                    z = (z * 1103515245L + 12345L) % 4294967296L;
                    sum += bench.sampled(0, (int) (z / 256 % size), 4);
                }
                Check.same("size " + size + ", seed " + seed + ", " + draws + " draws",
                        bench.resampled(0, seed, draws), (double) sum / draws);
            }
        }
    }

    private static SampleBench twoSamples(String one, String other) {
        SampleBench bench = Benches.read(one);
        Check.feed(bench, other);
        Check.same("reading " + other, bench.read(1) >= 0, true);
        return bench;
    }

    /** Two summaries of the size 12, slot 0 with these values and slot 1 with the others. */
    private static SampleBench ofValues(int[] one, int[] other) {
        SampleBench bench = new SampleBench();
        bench.define(0, 0, 12, 7, 0);
        bench.define(1, 1, 12, 9, 0);
        for (int value : one) {
            bench.offer(0, 0, 0, 1, value);
        }
        for (int value : other) {
            bench.offer(1, 0, 0, 1, value);
        }
        return bench;
    }

    private static void distance() {
        Document.section("Promise 25: distance");
        Document.isPlain("- `one`: a slot", "- `other`: a slot", "Returns the distance.");
        Document.says("`float distance(int one, int other) throws IndexOutOfBoundsException, IllegalStateException, "
                + "NoSuchElementException`", () -> {
            Bounds.refused(Benches.INDEX, Bounds::rich, "no slot, empty", b -> b.distance(4, 3));
            Bounds.refused(Benches.INDEX, Bounds::rich, "empty, no slot", b -> b.distance(3, -1));
            Bounds.refused(Benches.INDEX, Bounds::rich, "no items, no slot", b -> b.distance(2, 4));
            Bounds.refused(Benches.STATE, Bounds::rich, "no items, empty", b -> b.distance(2, 3));
            Bounds.refused(Benches.STATE, Bounds::rich, "empty, no items", b -> b.distance(3, 2));
        });
        Document.says("Returns the distance of the samples of two summaries: the greatest absolute difference, over "
                + "all values x of both samples, between the shares of the values of both samples that are at most x; "
                + "a share is a number of values, as a float, divided by the number of items of the sample, as a "
                + "float.", EstimatesBounds::distances);
        Document.says(Document.NO_SLOT, () -> {
            Bounds.noSuchSlot((b, slot) -> b.distance(slot, 0));
            Bounds.noSuchSlot((b, slot) -> b.distance(0, slot));
        });
        Document.says(Document.ONE_EMPTY, () -> {
            Bounds.emptySlot((b, slot) -> b.distance(slot, slot));
            Bounds.refused(Benches.STATE, Bounds::rich, "the first one", b -> b.distance(3, 0));
            Bounds.refused(Benches.STATE, Bounds::rich, "the other one", b -> b.distance(0, 3));
        });
        Document.says("Throws `NoSuchElementException` if one of the samples is empty", () -> {
            emptySample(b -> b.distance(0, 0));
            Bounds.refused(Benches.ELEMENT, Bounds::rich, "the first one", b -> b.distance(2, 0));
            Bounds.refused(Benches.ELEMENT, Bounds::rich, "the other one", b -> b.distance(0, 2));
        });
    }

    private static void distances() {
        distanceIs(0f, new int[] {5}, new int[] {5});
        distanceIs(1f, new int[] {5}, new int[] {6});
        distanceIs(1f, new int[] {-999}, new int[] {999});
        distanceIs(0f, new int[] {-999, 999}, new int[] {999, -999});
        distanceIs(0.5f, new int[] {5}, new int[] {5, 6});
        distanceIs(0.5f, new int[] {5}, new int[] {4, 5});
        distanceIs(0f, new int[] {5, 5}, new int[] {5});
        distanceIs(0.25f, new int[] {1, 2, 3, 4}, new int[] {1, 2, 3, 3});
        distanceIs(1f - 11f / 12f, new int[] {1, 2, 3, 4, 5, 6, 7, 8, 9, 10, 11, 12},
                new int[] {1, 2, 3, 4, 5, 6, 7, 8, 9, 10, 11, 13});
        // As floats, 1 - 1 / 3 and 2 / 3 are not the same.
        Check.same("two thirds", 1f - 1f / 3f == 2f / 3f, false);
        distanceIs(1f - 1f / 3f, new int[] {5}, new int[] {5, 9, 9});
        distanceIs(2f / 3f - 1f / 2f, new int[] {1, 2, 9}, new int[] {1, 9});
        Check.same("a sample and itself", Benches.eight(2, 1).distance(0, 0), 0f);
        // The sample of the first one is 3 alone, with the value 8.
        String one = "0/1/7/0;0,0,0,1,9;2,0,0,1,-9;3,0,0,1,8";
        Check.same("one of three, the same value", twoSamples(one, "0/1/7/0;5,0,0,1,8").distance(0, 1), 0f);
        Check.same("one of three, a greater value", twoSamples(one, "0/1/7/0;5,0,0,1,9").distance(0, 1), 1f);
        Check.same("one of three, a lower value", twoSamples(one, "0/1/7/0;5,0,0,1,7").distance(1, 0), 1f);
        Check.same("three of eight and all", eightAndAll().distance(0, 1), 5f / 8f - 1f / 3f);
        Check.same("not the kept items, but the samples", twoSamples("0/1/7/0;0,0,0,1,8;1,0,0,1,5",
                "0/1/7/0;2,0,0,1,8;4,0,0,1,1").distance(0, 1), 0f);
    }

    private static SampleBench eightAndAll() {
        SampleBench bench = Benches.eight(0, 3);
        bench.define(1, 0, 12, 7, 0);
        Benches.offerEight(bench, 1);
        return bench;
    }

    private static void distanceIs(float due, int[] one, int[] other) {
        SampleBench bench = ofValues(one, other);
        Check.same("distance", bench.distance(0, 1), due);
        Check.same("distance back", bench.distance(1, 0), due);
    }

    private static void common() {
        Document.section("Promise 26: common");
        Document.isPlain("- `one`: a slot", "- `other`: a slot", "Returns the number of items.");
        Document.says("`int common(int one, int other) throws IndexOutOfBoundsException, "
                + "IllegalStateException`", () -> {
            Bounds.refused(Benches.INDEX, Bounds::rich, "no slot, empty", b -> b.common(4, 3));
            Bounds.refused(Benches.INDEX, Bounds::rich, "empty, no slot", b -> b.common(3, -1));
            Bounds.answers(0, Bounds::rich, "a sample of none", b -> b.common(2, 2));
        });
        Document.says("Returns the number of items that are in both samples, by their numbers.", () -> {
            Check.same("none and three", Bounds.rich().common(2, 0), 0);
            Check.same("three and none", Bounds.rich().common(0, 2), 0);
            Check.same("no quotas", Bounds.stratified(0, 0, 0, 0).common(0, 0), 0);
            Check.same("a sample and itself", Benches.eight(0, 3).common(0, 0), 3);
            Check.same("twelve of 60", Bounds.drawn(0, 12, 0, 60).common(0, 0), 12);
            Check.same("the same number, other parts", twoSamples("0/3/7/0;4,0,0,1,8",
                    "3/1/9/1;4,9,3,99,-8").common(0, 1), 1);
            Check.same("other numbers, the same parts", twoSamples("0/3/7/0;4,0,0,1,8",
                    "0/3/7/0;5,0,0,1,8").common(0, 1), 0);
            Check.same("kept, but not in both samples", twoSamples("0/1/7/0;0,0,0,1,8;1,0,0,1,5",
                    "0/1/7/0;0,0,0,1,8;3,0,0,1,5").common(0, 1), 0);
        });
        Document.says(Document.NO_SLOT, () -> {
            Bounds.noSuchSlot((b, slot) -> b.common(slot, 0));
            Bounds.noSuchSlot((b, slot) -> b.common(0, slot));
        });
        Document.says(Document.ONE_EMPTY, () -> {
            Bounds.emptySlot((b, slot) -> b.common(slot, slot));
            Bounds.refused(Benches.STATE, Bounds::rich, "the first one", b -> b.common(3, 0));
            Bounds.refused(Benches.STATE, Bounds::rich, "the other one", b -> b.common(0, 3));
        });
    }
}
