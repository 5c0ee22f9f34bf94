/** Promises 12 to 19: kept items, items of samples, and what places them there. */
public final class ItemsTest {
    private static final int LEAST = Integer.MIN_VALUE;
    private static final int MOST = Integer.MAX_VALUE;

    // The exceptions that a call with an index of a kept item has in common, for what is not out of range.
    private interface OfItem {
        Object answer(SampleBench bench, int slot, int i);
    }

    private static void refusesIndices(String what, OfItem call) {
        SampleBench bench = Benches.eight(0, 3);
        bench.define(1, 0, 3, 7, 0);
        for (int i : new int[] {-1, 8, LEAST, MOST}) {
            Check.refuses(Benches.INDEX, bench, what + " of item " + i, () -> call.answer(bench, 0, i));
            Check.refuses(Benches.STATE, bench, what + " of item " + i + " of an empty slot",
                    () -> call.answer(bench, 2, i));
        }
        Check.refuses(Benches.INDEX, bench, what + " of no items", () -> call.answer(bench, 1, 0));
        Check.refuses(Benches.STATE, bench, what + " of an empty slot", () -> call.answer(bench, 2, 0));
        for (int slot : Benches.WRONG_SLOTS) {
            Check.refuses(Benches.INDEX, bench, what + " of no slot", () -> call.answer(bench, slot, 0));
        }
    }

    private static void kept() {
        SampleBench bench = Benches.eight(0, 3);
        Check.same("numbers", Benches.kept(bench, 0, 0), "0 1 2 3 4 5 6 7");
        Check.same("keys", Benches.kept(bench, 0, 1), "5 5 9 9 20 30 99 0");
        Check.same("strata", Benches.kept(bench, 0, 2), "0 1 2 3 0 1 2 3");
        Check.same("weights", Benches.kept(bench, 0, 3), "10 20 30 40 50 60 70 99");
        Check.same("values", Benches.kept(bench, 0, 4), "100 -50 7 8 999 -999 0 -1");
        Check.same("places, kind 0", Benches.kept(bench, 0, 5), "1 -1 -1 0 -1 -1 -1 2");
        Check.same("places, kind 1", Benches.kept(Benches.eight(1, 3), 0, 5), "-1 -1 -1 1 -1 -1 2 0");
        Check.same("places, kind 2", Benches.kept(Benches.eight(2, 1), 0, 5), "0 -1 2 3 -1 1 -1 -1");
        Check.same("places, kind 3", Benches.kept(Benches.eight(3, 12), 0, 5), "3 -1 5 -1 2 4 1 0");
        for (int what : new int[] {-1, 6, LEAST, MOST}) {
            Check.refuses(Benches.ARGUMENT, bench, "kept " + what, () -> bench.kept(0, 0, what));
            Check.refuses(Benches.INDEX, bench, "kept " + what + " of no item", () -> bench.kept(0, 8, what));
            Check.refuses(Benches.ARGUMENT, bench, "kept " + what + " of an empty slot", () -> bench.kept(1, 0, what));
        }
        refusesIndices("kept", (x, slot, i) -> x.kept(slot, i, 5));
    }

    private static void sampled() {
        SampleBench bench = Benches.eight(0, 3);
        Check.same("numbers", Benches.sampled(bench, 0, 0), "3 0 7");
        Check.same("keys", Benches.sampled(bench, 0, 1), "9 5 0");
        Check.same("strata", Benches.sampled(bench, 0, 2), "3 0 3");
        Check.same("weights", Benches.sampled(bench, 0, 3), "40 10 99");
        Check.same("values", Benches.sampled(bench, 0, 4), "8 100 -1");
        Check.same("all of kind 0", Benches.sampled(Benches.eight(0, 8), 0, 0), "3 0 7 2 6 5 1 4");
        Check.same("all of kind 1", Benches.sampled(Benches.eight(1, 12), 0, 0), "7 3 6 5 2 4 0 1");
        Check.same("all of kind 2", Benches.sampled(Benches.eight(2, 2), 0, 0), "0 4 5 1 2 6 3 7");
        Check.same("kind 2 with quotas of 1", Benches.sampled(Benches.eight(2, 1), 0, 0), "0 5 2 3");
        Check.same("all of kind 3", Benches.sampled(Benches.eight(3, 6), 0, 0), "7 6 4 0 5 2");
        Check.same("kind 3", Benches.sampled(Benches.eight(3, 2), 0, 0), "7 6");
        SampleBench slid = new SampleBench();
        slid.define(0, 3, 12, 7, 7);
        Benches.offerEight(slid, 0);
        Check.same("a key's lowest number is gone", Benches.sampled(slid, 0, 0), "7 6 4 1 5 2");
        for (int i : new int[] {-1, 3, 7, LEAST, MOST}) {
            Check.refuses(Benches.INDEX, bench, "sampled item " + i, () -> bench.sampled(0, i, 9));
            Check.refuses(Benches.STATE, bench, "sampled item " + i + " of none", () -> bench.sampled(1, i, 0));
        }
        for (int what : new int[] {-1, 5, LEAST, MOST}) {
            Check.refuses(Benches.ARGUMENT, bench, "sampled " + what, () -> bench.sampled(0, 0, what));
            Check.refuses(Benches.ARGUMENT, bench, "sampled " + what + " of none", () -> bench.sampled(1, 0, what));
        }
        for (int slot : Benches.WRONG_SLOTS) {
            Check.refuses(Benches.INDEX, bench, "sampled of no slot", () -> bench.sampled(slot, 0, 9));
        }
        bench.define(1, 2, 3, 7, 0);
        Check.refuses(Benches.INDEX, bench, "sampled of no items", () -> bench.sampled(1, 0, 0));
    }

    private static void mix() {
        long[] ofNumbers = {415870661L, 1478832578L, 746935935L, 387881317L, 1778835765L, 874658910L, 764941450L,
            531079104L};
        long[] ofKeys = {874658910L, 874658910L, 1732499537L, 1732499537L, 783634426L, 1219642747L, 490190196L,
            415870661L};
        for (int i = 0; i < 8; i++) {
            for (int kind = 0; kind < 3; kind++) {
                Check.same("mix of item " + i, Benches.eight(kind, 1).mix(0, i), ofNumbers[i]);
            }
            Check.same("mix of the key of item " + i, Benches.eight(3, 1).mix(0, i), ofKeys[i]);
        }
        int[] seeds = {1, -1, MOST, LEAST};
        long[] ofSeeds = {1364076728L, 32599866L, 2043416233L, 1832674721L};
        for (int k = 0; k < seeds.length; k++) {
            SampleBench other = new SampleBench();
            other.define(0, 0, 1, seeds[k], 0);
            other.offer(0, 77, 0, 1, 0);
            Check.same("mix with the seed " + seeds[k], other.mix(0, 0), ofSeeds[k]);
        }
        refusesIndices("mix", SampleBench::mix);
    }

    private static void commonKey() {
        SampleBench bench = Benches.eight(0, 12);
        Check.same("the lowest of two keys that occur twice", bench.commonKey(0), 5);
        bench.offer(0, 9, 0, 1, 1);
        Check.same("a key that occurs three times", bench.commonKey(0), 9);
        Check.same("of keys that occur once, the lowest", Benches.eight(0, 3).commonKey(0), 0);
        Check.same("only of the sample", Benches.eight(2, 1).commonKey(0), 9);
        Check.same("the highest key", Benches.read("0/1/7/0;0,99,0,1,1").commonKey(0), 99);
        Check.same("of distinct keys the lowest", Benches.eight(3, 2).commonKey(0), 0);
        bench.define(1, 0, 1, 1, 0);
        Check.refuses(Benches.ELEMENT, bench, "commonKey of no items", () -> bench.commonKey(1));
        SampleBench none = Benches.eight(2, 1);
        none.allocate(0, 0, false);
        Check.refuses(Benches.ELEMENT, none, "commonKey with quotas of 0", () -> none.commonKey(0));
        Check.refuses(Benches.STATE, bench, "commonKey of an empty slot", () -> bench.commonKey(2));
        for (int slot : Benches.WRONG_SLOTS) {
            Check.refuses(Benches.INDEX, bench, "commonKey of no slot", () -> bench.commonKey(slot));
        }
    }

    private static String reasons(SampleBench bench) {
        return row(bench, SampleBench::reason).replace(" ", "");
    }

    private static void reason() {
        Check.same("reasons, kind 0", reasons(Benches.eight(0, 3)), "02202220");
        Check.same("reasons, kind 0 complete", reasons(Benches.eight(0, 8)), "00000000");
        Check.same("reasons, kind 1", reasons(Benches.eight(1, 3)), "22202200");
        Check.same("reasons, kind 2", reasons(Benches.eight(2, 1)), "02002022");
        Check.same("reasons, kind 3", reasons(Benches.eight(3, 3)), "21210200");
        Check.same("reasons, kind 3 complete", reasons(Benches.eight(3, 12)), "01010000");
        SampleBench bench = Benches.eight(2, 1);
        bench.setQuota(0, 0, 0);
        Check.same("reasons with a quota of 0", reasons(bench), "32003022");
        SampleBench uniform = Benches.eight(0, 3);
        uniform.allocate(0, 0, false);
        Check.same("quotas are no matter for kind 0", reasons(uniform), "02202220");
        refusesIndices("reason", SampleBench::reason);
    }

    // The answers for all kept items, with none for an exception.
    private static String row(SampleBench bench, OfItem call) {
        StringBuilder row = new StringBuilder();
        for (int i = 0; i < bench.summary(0, 4); i++) {
            int at = i;
            Object answer = Check.outcome(() -> call.answer(bench, 0, at));
            row.append(i == 0 ? "" : " ").append(answer instanceof String ? "none" : answer);
        }
        return row.toString();
    }

    private static String needed(SampleBench bench) {
        return row(bench, SampleBench::needed);
    }

    private static void needed() {
        Check.same("needed, kind 0", needed(Benches.eight(0, 3)), "2 7 4 1 8 6 5 3");
        Check.same("needed, kind 1", needed(Benches.eight(1, 3)), "7 8 5 2 6 4 3 1");
        Check.same("needed, kind 2", needed(Benches.eight(2, 3)), "1 2 1 1 2 1 2 2");
        Check.same("needed, kind 3", needed(Benches.eight(3, 3)), "4 none 6 none 3 5 2 1");
        SampleBench bench = Benches.eight(2, 1);
        bench.setQuota(0, 0, 0);
        Check.same("needed with a quota of 0", bench.needed(0, 4), 2);
        SampleBench distinct = Benches.eight(3, 3);
        Check.refuses(Benches.ELEMENT, distinct, "needed of no candidate", () -> distinct.needed(0, 1));
        SampleBench many = new SampleBench();
        many.define(0, 0, 1, 7, 0);
        many.offerDrawn(0, 1, 60);
        int greatest = 0;
        for (int i = 0; i < 60; i++) {
            greatest = Math.max(greatest, many.needed(0, i));
        }
        Check.same("the greatest one that is needed", greatest, 60);
        refusesIndices("needed", SampleBench::needed);
    }

    private static String margins(SampleBench bench) {
        return row(bench, SampleBench::margin);
    }

    private static void margin() {
        Check.same("margins, kind 0", margins(Benches.eight(0, 3)), "2 none none 3 none none none 1");
        Check.same("margins, kind 0 complete", margins(Benches.eight(0, 12)), "11 6 9 12 5 7 8 10");
        Check.same("margins, kind 1", margins(Benches.eight(1, 3)), "none none none 2 none none 1 3");
        Check.same("margins, kind 2", margins(Benches.eight(2, 3)), "3 2 3 3 2 3 2 2");
        Check.same("margins, kind 3", margins(Benches.eight(3, 3)), "none none none none 1 none 2 3");
        SampleBench bench = Benches.eight(2, 3);
        bench.setQuota(0, 0, 1);
        bench.setQuota(0, 2, 12);
        bench.setQuota(0, 3, 0);
        Check.same("margins with quotas", margins(bench), "1 2 12 none none 3 11 none");
        SampleBench uniform = Benches.eight(0, 3);
        Check.refuses(Benches.ELEMENT, uniform, "margin of what is not in the sample", () -> uniform.margin(0, 1));
        SampleBench distinct = Benches.eight(3, 12);
        Check.refuses(Benches.ELEMENT, distinct, "margin of no candidate", () -> distinct.margin(0, 3));
        refusesIndices("margin", SampleBench::margin);
    }

    private static void stratum() {
        SampleBench bench = Benches.eight(0, 3);
        int[][] due = {{2, 1, 1099, 100, 60, 10}, {2, 0, -1049, 0, 80, 0}, {2, 0, 7, 0, 100, 0},
            {2, 2, 7, 7, 139, 139}};
        for (int stratum = 0; stratum < 4; stratum++) {
            for (int what = 0; what < 6; what++) {
                Check.same("stratum " + stratum + " number " + what, bench.stratum(0, stratum, what),
                        due[stratum][what]);
            }
        }
        SampleBench distinct = Benches.eight(3, 12);
        Check.same("of all kept items, candidates or not", distinct.stratum(0, 1, 0), 2);
        Check.same("of the sample of kind 3", distinct.stratum(0, 1, 3), -999);
        SampleBench quotas = Benches.eight(2, 1);
        quotas.setQuota(0, 2, 0);
        Check.same("of a quota of 0", quotas.stratum(0, 2, 1) + quotas.stratum(0, 2, 5), 0);
        bench.define(1, 1, 1, 1, 0);
        for (int what = 0; what < 6; what++) {
            Check.same("of no items", bench.stratum(1, 3, what), 0);
        }
        for (int what : new int[] {-1, 6, LEAST, MOST}) {
            Check.refuses(Benches.ARGUMENT, bench, "stratum " + what, () -> bench.stratum(0, 0, what));
            Check.refuses(Benches.ARGUMENT, bench, "stratum " + what + " of none", () -> bench.stratum(2, 0, what));
            Check.refuses(Benches.INDEX, bench, "stratum " + what + " of no slot", () -> bench.stratum(4, 0, what));
            Check.refuses(Benches.INDEX, bench, "no stratum", () -> bench.stratum(0, 4, what));
        }
        for (int wrong : Benches.WRONG_SLOTS) {
            Check.refuses(Benches.INDEX, bench, "no stratum of none", () -> bench.stratum(2, wrong, 0));
            Check.refuses(Benches.INDEX, bench, "stratum of no slot", () -> bench.stratum(wrong, 0, 0));
        }
        Check.refuses(Benches.STATE, bench, "stratum of an empty slot", () -> bench.stratum(2, 0, 0));
    }

    public static void main(String[] args) {
        kept();
        sampled();
        mix();
        commonKey();
        reason();
        needed();
        margin();
        stratum();
        Check.end();
    }
}
