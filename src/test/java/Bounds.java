/** Benches and ways to look at them that the tests of boundary cases share; none takes 512 calls of one bench. */
final class Bounds {
    static final int LEAST = Integer.MIN_VALUE;
    static final int MOST = Integer.MAX_VALUE;

    /** Makes a bench anew, always the same one. */
    interface Maker {
        SampleBench make();
    }

    interface Call {
        Object of(SampleBench bench);
    }

    interface NumberCall {
        Object of(SampleBench bench, int number);
    }

    private static final Call[] LOOKS = {Check::seen, Bounds::input, Bounds::nextNumber, Bounds::changes,
        Bounds::saved};

    private Bounds() {
    }

    /**
     * Slot 0 holds eight items, slot 1 two items with the span 2, slot 2 none, and slot 3 is empty. More than ten
     * changes were made, slot 0 alone was saved, slot 1 is written, and the input is a text that can be read.
     */
    static SampleBench rich() {
        return rich("3/1/5/0");
    }

    static SampleBench rich(String input) {
        SampleBench bench = Benches.eight(0, 3);
        bench.save();
        bench.define(1, 2, 4, 7, 2);
        bench.offerDrawn(1, 5, 3);
        bench.setQuota(1, 2, 0);
        bench.define(2, 3, 5, 7, 0);
        bench.write(1);
        Check.feed(bench, input);
        return bench;
    }

    /** Slot 0 holds drawn items with the seed 7: by their mixes, the numbers come as 10, 3, 0, 12, 7, 2, 6, 5, 8, .. */
    static SampleBench drawn(int kind, int size, int span, int count) {
        SampleBench bench = new SampleBench();
        bench.define(0, kind, size, 7, span);
        bench.offerDrawn(0, 1, count);
        return bench;
    }

    /** The eight items of kind 2 with these quotas. */
    static SampleBench stratified(int first, int second, int third, int fourth) {
        SampleBench bench = Benches.eight(2, 1);
        bench.setQuota(0, 0, first);
        bench.setQuota(0, 1, second);
        bench.setQuota(0, 2, third);
        bench.setQuota(0, 3, fourth);
        return bench;
    }

    static SampleBench noItems(int kind) {
        SampleBench bench = new SampleBench();
        bench.define(0, kind, 3, 7, 0);
        return bench;
    }

    // ---- answers

    static void answers(Object due, Maker maker, String what, Call call) {
        SampleBench bench = maker.make();
        Check.answers(due, what, () -> call.of(bench));
    }

    /** The call throws this exception, and what can be asked and done afterwards is as if it had not been made. */
    static void refused(Class<? extends RuntimeException> due, Maker maker, String what, Call call) {
        answers(due.getSimpleName(), maker, what, call);
        leaves(maker, what, call);
    }

    /** The bench is after the call as it was before it, whatever the call answers. */
    static void leaves(Maker maker, String what, Call call) {
        for (int look = 0; look < LOOKS.length; look++) {
            SampleBench bench = maker.make();
            Check.outcome(() -> call.of(bench));
            Check.same("look " + look + " after " + what, LOOKS[look].of(bench), LOOKS[look].of(maker.make()));
        }
    }

    static boolean sameLooks(Maker one, Maker other) {
        boolean same = true;
        for (Call look : LOOKS) {
            same &= look.of(one.make()).equals(look.of(other.make()));
        }
        return same;
    }

    private static Object input(SampleBench bench) {
        String fed = String.valueOf(Check.outcome(() -> bench.feed('1')));
        String read = String.valueOf(Check.outcome(() -> bench.read(3)));
        return fed + " " + read + " " + Check.seen(bench);
    }

    private static Object nextNumber(SampleBench bench) {
        bench.define(3, 0, 1, 0, 1);
        return bench.offer(3, 0, 0, 1, 0);
    }

    private static Object changes(SampleBench bench) {
        StringBuilder all = new StringBuilder();
        for (int i = 0; i < 11; i++) {
            all.append(Check.outcome(bench::undo)).append(' ');
        }
        return all + Check.seen(bench) + nextNumber(bench);
    }

    private static Object saved(SampleBench bench) {
        String restored = String.valueOf(Check.outcome(bench::restore));
        return restored + " " + Check.seen(bench) + nextNumber(bench);
    }

    // ---- refusals that many calls have in common

    /** No slot has a number outside of 0 to 3, and each of these is one. */
    static void noSuchSlot(NumberCall call) {
        outside(Benches.INDEX, Bounds::rich, "slot", 0, 3, call);
    }

    /** An empty slot is refused, be it new or dropped; one that holds a summary is not. */
    static void emptySlot(NumberCall call) {
        refused(Benches.STATE, Bounds::rich, "the empty slot 3", bench -> call.of(bench, 3));
        refused(Benches.STATE, () -> dropped(), "the dropped slot 0", bench -> call.of(bench, 0));
        refused(Benches.STATE, SampleBench::new, "the new slot 0", bench -> call.of(bench, 0));
        for (int slot = 0; slot < 3; slot++) {
            isNot(Benches.STATE, Bounds::rich, "slot " + slot, slot, call);
        }
    }

    private static SampleBench dropped() {
        SampleBench bench = rich();
        bench.drop(0);
        return bench;
    }

    /** Numbers outside of a range throw this exception, and those just inside it don't. */
    static void outside(Class<? extends RuntimeException> due, Maker maker, String what, int low, int high,
            NumberCall call) {
        for (int number : new int[] {low - 1, high + 1, LEAST, MOST}) {
            refused(due, maker, what + " " + number, bench -> call.of(bench, number));
        }
        for (int number : new int[] {low, high}) {
            isNot(due, maker, what + " " + number, number, call);
        }
    }

    /** In slot 0 of the eight items and in slot 2 without items, an index outside of the list is refused. */
    static void noSuchItem(Items call) {
        noSuchSlot((bench, slot) -> call.of(bench, slot, 0));
        outside(Benches.INDEX, Bounds::rich, "item", 0, 7, (bench, i) -> call.of(bench, 0, i));
        for (int i : new int[] {-1, 0, 1, LEAST, MOST}) {
            refused(Benches.INDEX, Bounds::rich, "item " + i + " of none", bench -> call.of(bench, 2, i));
        }
    }

    interface Items {
        Object of(SampleBench bench, int slot, int i);
    }

    private static void isNot(Class<? extends RuntimeException> refusal, Maker maker, String what, int number,
            NumberCall call) {
        SampleBench bench = maker.make();
        Object got = Check.outcome(() -> call.of(bench, number));
        Check.same(what + " is refused", refusal.getSimpleName().equals(got), false);
        Check.same(what + " ends by the machine", String.valueOf(got).startsWith("the machine"), false);
    }
}
