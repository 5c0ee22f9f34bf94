/** Promises 20 to 26: estimates, true numbers, quantiles, resampled means, and what two samples have in common. */
public final class EstimatesTest {
    private static final int LEAST = Integer.MIN_VALUE;
    private static final int MOST = Integer.MAX_VALUE;

    private static String estimates(SampleBench bench, int slot) {
        return bench.estimate(slot, 0) + " " + bench.estimate(slot, 1) + " " + bench.estimate(slot, 2);
    }

    private static String truths(SampleBench bench, int slot) {
        return bench.truth(slot, 0) + " " + bench.truth(slot, 1) + " " + bench.truth(slot, 2);
    }

    private static void estimateKeys() {
        // The lowest and the highest key, and what is due for values and weights of the kinds 0 to 3 with the size 3.
        int[][] due = {
            {5, 9, 288, 133, 29, 147, 65, 100, 0, 0}, {9, 9, 21, 107, 29, 147, 15, 70, 0, 0},
            {0, 5, 264, 291, -1, 147, 49, 129, -2, 231}, {10, 9, 0, 0, 0, 0, 0, 0, 0, 0},
            {-5, 99, 285, 397, 28, 441, 64, 379, 2329, 511}, {20, 99, 0, 0, 0, 147, 0, 180, 2331, 280},
            {LEAST, MOST, 285, 397, 28, 441, 64, 379, 2329, 511}, {MOST, LEAST, 0, 0, 0, 0, 0, 0, 0, 0},
        };
        for (int[] d : due) {
            for (int kind = 0; kind < 4; kind++) {
                SampleBench bench = Benches.eight(kind, 3);
                String what = "kind " + kind + ", keys " + d[0] + " to " + d[1];
                Check.same(what, bench.estimateKeys(0, d[0], d[1], false), d[2 + 2 * kind]);
                Check.same(what + " of weights", bench.estimateKeys(0, d[0], d[1], true), d[3 + 2 * kind]);
            }
        }
        SampleBench bench = Benches.eight(2, 1);
        Check.same("kind 2, values", bench.estimateKeys(0, 5, 9, false), 230);
        Check.same("kind 2, weights", bench.estimateKeys(0, 5, 9, true), 160);
        Check.refuses(Benches.STATE, bench, "estimateKeys of an empty slot", () -> bench.estimateKeys(1, 9, 0, true));
        for (int slot : Benches.WRONG_SLOTS) {
            Check.refuses(Benches.INDEX, bench, "estimateKeys of no slot", () -> bench.estimateKeys(slot, 0, 9, true));
        }
        bench.define(1, 3, 1, 1, 0);
        Check.same("estimateKeys of no items", bench.estimateKeys(1, 0, 99, true), 0);
    }

    private static void estimate() {
        Check.same("kind 0", estimates(Benches.eight(0, 3), 0), "8 285 397");
        Check.same("kind 0 complete", estimates(Benches.eight(0, 12), 0), "8 64 379");
        Check.same("kind 1 of size 1", estimates(Benches.eight(1, 1), 0), "8 -2 221");
        Check.same("kind 1 of size 2", estimates(Benches.eight(1, 2), 0), "8 37 394");
        Check.same("kind 1 of size 3", estimates(Benches.eight(1, 3), 0), "8 28 441");
        Check.same("kind 1 of size 4, an item that counts as itself", estimates(Benches.eight(1, 4), 0),
                "8 -1420 357");
        Check.same("kind 1 complete", estimates(Benches.eight(1, 8), 0), "8 64 379");
        Check.same("kind 2 complete", estimates(Benches.eight(2, 3), 0), "8 64 379");
        Check.same("kind 2", estimates(Benches.eight(2, 1), 0), "8 -1768 280");
        Check.same("kind 2, strata without items in the sample", estimates(Bounds.stratified(0, 1, 2, 0), 0),
                "8 -1991 220");
        Check.same("kind 2, an empty sample", estimates(Bounds.stratified(0, 0, 0, 0), 0), "8 0 0");
        Check.same("kind 3", estimates(Benches.eight(3, 3), 0), "7 2329 511");
        Check.same("kind 3 of size 1", estimates(Benches.eight(3, 1), 0), "4 -4 396");
        Check.same("kind 3 complete", estimates(Benches.eight(3, 12), 0), "6 106 319");
        Check.same("kind 3 just complete", estimates(Benches.eight(3, 6), 0), "6 106 319");
        halves();
        greatNumbers();
        SampleBench bench = Benches.eight(0, 3);
        for (int kind = 0; kind < 4; kind++) {
            bench.define(1, kind, 3, 1, 0);
            Check.same("no items", estimates(bench, 1), "0 0 0");
        }
        refusesNumbers("estimate", SampleBench::estimate);
    }

    private interface OfSummary {
        Object answer(SampleBench bench, int slot, int what);
    }

    private static void refusesNumbers(String what, OfSummary call) {
        SampleBench bench = Benches.eight(3, 3);
        for (int wrong : new int[] {-1, 3, LEAST, MOST}) {
            Check.refuses(Benches.ARGUMENT, bench, what + " " + wrong, () -> call.answer(bench, 0, wrong));
            Check.refuses(Benches.ARGUMENT, bench, what + " " + wrong + " of none", () -> call.answer(bench, 1, wrong));
            Check.refuses(Benches.INDEX, bench, what + " " + wrong + " of no slot", () -> call.answer(bench, 4, wrong));
        }
        for (int slot : Benches.WRONG_SLOTS) {
            Check.refuses(Benches.INDEX, bench, what + " of no slot", () -> call.answer(bench, slot, 0));
        }
        Check.refuses(Benches.STATE, bench, what + " of an empty slot", () -> call.answer(bench, 1, 2));
    }

    // With the seed 7, 0 and 2 are the sample of 0 to 2, and 3 and 5 that of 3 to 5.
    private static void halves() {
        int[][] totals = {{1, 2}, {-1, -1}, {3, 5}, {-3, -4}, {2, 3}, {-2, -3}};
        for (int[] t : totals) {
            String first = ";0,1,0,1," + t[0] + ";1,1,0,1,0;2,1,0,1,0";
            String second = ";3,1,1,1," + t[0] + ";4,1,1,1,0;5,1,1,1,0";
            Check.same("half of " + t[0] * 3, Benches.read("0/2/7/0" + first).estimate(0, 1), t[1]);
            Check.same("half of " + t[0] * 3 + " in two strata",
                    Benches.read("2/2/7/0" + first + second).estimate(0, 1), 2 * t[1]);
        }
        Check.same("kind 3, -5 / 2", Benches.eight(3, 2).estimate(0, 1), -2);
        Check.same("kind 3, the count for -5 / 2", Benches.eight(3, 2).estimate(0, 0), 5);
    }

    // With the seed 0, the number 0 has the mix 1 and 287730 the mix 7145; the keys 59 and 43 have 61 and 933.
    private static void greatNumbers() {
        String limit = ";287730,1,0,99,5";
        Check.same("kind 1, a great value", estimates(Benches.read("1/1/0/0;0,1,0,1,999" + limit), 0),
                "2 29725441605 29755197");
        Check.same("kind 1, a great value below 0", Benches.read("1/1/0/0;0,1,0,1,-998" + limit).estimate(0, 1),
                -29695686409L);
        SampleBench distinct = Benches.read("3/1/-789956601/0;0,43,0,99,1;1,59,0,99,999");
        Check.same("the mixes of keys", distinct.mix(0, 0) + " " + distinct.mix(0, 1), "933 61");
        Check.same("kind 3, a great count", estimates(distinct, 0), "2301697 2299395303 227868003");
    }

    private static void truth() {
        for (int kind = 0; kind < 3; kind++) {
            Check.same("kind " + kind, truths(Benches.eight(kind, 3), 0), "8 64 379");
            Check.same("kind " + kind + " of size 12", truths(Benches.eight(kind, 12), 0), "8 64 379");
        }
        Check.same("kind 3", truths(Benches.eight(3, 3), 0), "6 106 319");
        Check.same("kind 3 of size 12", truths(Benches.eight(3, 12), 0), "6 106 319");
        Check.same("quotas are no matter", truths(Bounds.stratified(0, 0, 0, 0), 0), "8 64 379");
        SampleBench bench = new SampleBench();
        bench.define(0, 3, 1, 1, 0);
        Check.same("no items", truths(bench, 0), "0 0 0");
        refusesNumbers("truth", SampleBench::truth);
    }

    private static void quantile() {
        SampleBench bench = Benches.eight(0, 12);
        int[][] due = {{0, -999}, {124, -999}, {125, -50}, {249, -50}, {250, -1}, {375, 0}, {500, 7}, {625, 8},
            {750, 100}, {874, 100}, {875, 999}, {999, 999}, {1000, 999}};
        for (int[] d : due) {
            Check.same("quantile " + d[0], bench.quantile(0, d[0]), d[1]);
        }
        SampleBench three = Benches.eight(0, 3);
        Check.same("of three at 333", three.quantile(0, 333), -1);
        Check.same("of three at 334", three.quantile(0, 334), 8);
        Check.same("of three at 1000", three.quantile(0, 1000), 100);
        for (int wrong : new int[] {-1, 1001, LEAST, MOST}) {
            Check.refuses(Benches.ARGUMENT, bench, "quantile " + wrong, () -> bench.quantile(0, wrong));
            Check.refuses(Benches.ARGUMENT, bench, "quantile " + wrong + " of none", () -> bench.quantile(1, wrong));
            Check.refuses(Benches.INDEX, bench, "quantile of no slot", () -> bench.quantile(4, wrong));
        }
        for (int slot : Benches.WRONG_SLOTS) {
            Check.refuses(Benches.INDEX, bench, "quantile of no slot", () -> bench.quantile(slot, 0));
        }
        Check.refuses(Benches.STATE, bench, "quantile of an empty slot", () -> bench.quantile(1, 0));
        bench.define(1, 0, 1, 1, 0);
        Check.refuses(Benches.ELEMENT, bench, "quantile of no items", () -> bench.quantile(1, 0));
        Check.refuses(Benches.ARGUMENT, bench, "a wrong quantile of no items", () -> bench.quantile(1, -1));
        SampleBench none = Bounds.stratified(0, 0, 0, 0);
        Check.refuses(Benches.ELEMENT, none, "quantile of an empty sample", () -> none.quantile(0, 500));
    }

    private static void resampled() {
        SampleBench bench = Benches.eight(0, 3);
        Check.same("one draw", bench.resampled(0, 4, 1), -1.0);
        Check.same("seven draws", bench.resampled(0, 4, 7), 29.142857142857142);
        Check.same("1000 draws", bench.resampled(0, -3, 1000), 35.785);
        Check.same("a sample of one", Benches.eight(0, 1).resampled(0, 4, 1000), 8.0);
        Check.same("kind 1", Benches.eight(1, 12).resampled(0, 4, 7), -12.428571428571429);
        Check.same("kind 2", Benches.eight(2, 1).resampled(0, -3, 1000), -216.975);
        Check.same("kind 3", Benches.eight(3, 3).resampled(0, 4, 7), 570.7142857142857);
        for (int wrong : new int[] {0, -1, 1001, LEAST, MOST}) {
            Check.refuses(Benches.ARGUMENT, bench, "resampled " + wrong, () -> bench.resampled(0, 1, wrong));
            Check.refuses(Benches.ARGUMENT, bench, "resampled of none", () -> bench.resampled(1, 1, wrong));
            Check.refuses(Benches.INDEX, bench, "resampled of no slot", () -> bench.resampled(4, 1, wrong));
        }
        for (int slot : Benches.WRONG_SLOTS) {
            Check.refuses(Benches.INDEX, bench, "resampled of no slot", () -> bench.resampled(slot, 1, 1));
        }
        Check.refuses(Benches.STATE, bench, "resampled of an empty slot", () -> bench.resampled(1, 1, 1));
        bench.define(1, 3, 1, 1, 0);
        Check.refuses(Benches.ELEMENT, bench, "resampled of no items", () -> bench.resampled(1, 1, 1));
        Check.refuses(Benches.ARGUMENT, bench, "resampled of no items, no draws", () -> bench.resampled(1, 1, 0));
        SampleBench none = Bounds.stratified(0, 0, 0, 0);
        Check.refuses(Benches.ELEMENT, none, "resampled of an empty sample", () -> none.resampled(0, 1, 1));
    }

    private interface OfTwo {
        Object answer(SampleBench bench, int one, int other);
    }

    private static void refusesPairs(String what, OfTwo call) {
        SampleBench bench = Benches.eight(0, 3);
        for (int slot : Benches.WRONG_SLOTS) {
            Check.refuses(Benches.INDEX, bench, what + " of no slot", () -> call.answer(bench, slot, 1));
            Check.refuses(Benches.INDEX, bench, what + " with no slot", () -> call.answer(bench, 1, slot));
        }
        Check.refuses(Benches.STATE, bench, what + " of an empty slot", () -> call.answer(bench, 1, 0));
        Check.refuses(Benches.STATE, bench, what + " with an empty slot", () -> call.answer(bench, 0, 1));
    }

    private static void distance() {
        SampleBench bench = Benches.eight(0, 3);
        bench.define(1, 0, 12, 7, 0);
        Benches.offerEight(bench, 1);
        float due = 5f / 8f - 1f / 3f;
        Check.same("distance", bench.distance(0, 1), due);
        Check.same("distance back", bench.distance(1, 0), due);
        Check.same("distance of a sample from itself", bench.distance(1, 1), 0.0f);
        bench.define(2, 1, 1, 1, 0);
        bench.offer(2, 1, 1, 1, 5);
        bench.define(3, 2, 1, 1, 0);
        bench.offer(3, 1, 1, 1, 9);
        Check.same("distance of all", bench.distance(2, 3), 1.0f);
        Check.same("distance of all back", bench.distance(3, 2), 1.0f);
        bench.offer(3, 1, 2, 1, 5);
        Check.same("distance of a half", bench.distance(2, 3), 0.5f);
        bench.setQuota(3, 1, 0);
        Check.same("distance of equal samples", bench.distance(2, 3), 0.0f);
        bench.setQuota(3, 2, 0);
        Check.refuses(Benches.ELEMENT, bench, "distance of an empty sample", () -> bench.distance(3, 0));
        Check.refuses(Benches.ELEMENT, bench, "distance from an empty sample", () -> bench.distance(0, 3));
        bench.drop(2);
        Check.refuses(Benches.STATE, bench, "distance of an empty sample and slot", () -> bench.distance(3, 2));
        refusesPairs("distance", SampleBench::distance);
    }

    private static void common() {
        SampleBench bench = Benches.eight(0, 3);
        bench.copy(0, 1);
        Check.same("common of a copy", bench.common(0, 1), 3);
        Check.same("common with itself", bench.common(0, 0), 3);
        bench.offerDrawn(1, 1, 10);
        bench.define(2, 3, 3, 7, 0);
        Benches.offerEight(bench, 2);
        Check.same("common of other items with the same keys", bench.common(0, 2), 0);
        SampleBench read = Benches.read("2/2/7/0;0,1,0,1,1;3,1,0,1,1;4,1,0,1,1;7,1,1,1,1");
        Check.feed(read, "0/3/7/0;0,2,1,2,2;1,1,1,1,1;3,4,3,4,4;7,1,1,1,1");
        read.read(1);
        // The samples are 3, 0 and 7 of slot 0 and 3, 0 and 7 of slot 1.
        Check.same("common by numbers alone", read.common(0, 1), 3);
        read.setQuota(0, 0, 1);
        Check.same("common of samples, not of lists", read.common(0, 1), 2);
        Check.same("common back", read.common(1, 0), 2);
        read.allocate(0, 0, false);
        Check.same("common of an empty sample", read.common(0, 1), 0);
        read.define(2, 0, 1, 1, 0);
        Check.same("common of no items", read.common(2, 2), 0);
        refusesPairs("common", SampleBench::common);
    }

    public static void main(String[] args) {
        estimateKeys();
        estimate();
        truth();
        quantile();
        resampled();
        distance();
        common();
        Check.end();
    }
}
