/** Benches that several tests begin with. */
final class Benches {
    static final Class<IndexOutOfBoundsException> INDEX = IndexOutOfBoundsException.class;
    static final Class<IllegalArgumentException> ARGUMENT = IllegalArgumentException.class;
    static final Class<IllegalStateException> STATE = IllegalStateException.class;
    static final Class<ArithmeticException> ARITHMETIC = ArithmeticException.class;
    static final Class<UnsupportedOperationException> UNSUPPORTED = UnsupportedOperationException.class;
    static final Class<java.util.NoSuchElementException> ELEMENT = java.util.NoSuchElementException.class;

    static final int[] WRONG_SLOTS = {-1, 4, Integer.MIN_VALUE, Integer.MAX_VALUE};

    // Key, stratum, weight and value of the items 0 to 7.
    static final int[][] EIGHT = {
        {5, 0, 10, 100}, {5, 1, 20, -50}, {9, 2, 30, 7}, {9, 3, 40, 8},
        {20, 0, 50, 999}, {30, 1, 60, -999}, {99, 2, 70, 0}, {0, 3, 99, -1},
    };

    private Benches() {
    }

    /** The eight items in slot 0, with the seed 7: by their mixes, the numbers come as 3, 0, 7, 2, 6, 5, 1, 4. */
    static SampleBench eight(int kind, int size) {
        SampleBench bench = new SampleBench();
        bench.define(0, kind, size, 7, 0);
        offerEight(bench, 0);
        return bench;
    }

    static void offerEight(SampleBench bench, int slot) {
        for (int[] item : EIGHT) {
            bench.offer(slot, item[0], item[1], item[2], item[3]);
        }
    }

    static SampleBench read(String text) {
        SampleBench bench = new SampleBench();
        Check.feed(bench, text);
        Check.answers(true, "reading " + text, () -> bench.read(0) >= 0);
        return bench;
    }

    static String written(SampleBench bench, int slot) {
        bench.write(slot);
        return Check.textOf(bench);
    }

    /** The parts of the kept items, a column for each item. */
    static String kept(SampleBench bench, int slot, int what) {
        StringBuilder row = new StringBuilder();
        int count = bench.summary(slot, 4);
        for (int i = 0; i < count; i++) {
            row.append(i == 0 ? "" : " ").append(bench.kept(slot, i, what));
        }
        return row.toString();
    }

    static String sampled(SampleBench bench, int slot, int what) {
        StringBuilder row = new StringBuilder();
        int count = bench.summary(slot, 5);
        for (int i = 0; i < count; i++) {
            row.append(i == 0 ? "" : " ").append(bench.sampled(slot, i, what));
        }
        return row.toString();
    }

    static String quotas(SampleBench bench, int slot) {
        return bench.quota(slot, 0) + " " + bench.quota(slot, 1) + " " + bench.quota(slot, 2) + " "
                + bench.quota(slot, 3);
    }
}
