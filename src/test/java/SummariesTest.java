/** Promises 1 to 11: a new object, and what puts summaries and items into slots. */
public final class SummariesTest {
    private static final int LEAST = Integer.MIN_VALUE;
    private static final int MOST = Integer.MAX_VALUE;

    private static void newObject() {
        SampleBench bench = new SampleBench();
        for (int slot = 0; slot < 4; slot++) {
            int at = slot;
            Check.refuses(Benches.STATE, bench, "summary of new slot " + slot, () -> bench.summary(at, 4));
            Check.answers(0, "drop of new slot " + slot, () -> bench.drop(at));
        }
        SampleBench other = new SampleBench();
        Check.refuses(Benches.STATE, other, "undo in a new object", other::undo);
        Check.refuses(Benches.STATE, other, "restore in a new object", other::restore);
        Check.refuses(Benches.INDEX, other, "text of a new object", () -> other.text(0));
        Check.answers(-100, "read in a new object", () -> other.read(0));
        Check.answers(0, "save in a new object", other::save);
        other.define(0, 0, 1, 0, 0);
        Check.answers(0, "the first number", () -> other.offer(0, 0, 0, 1, 0));
    }

    private static void define() {
        SampleBench bench = new SampleBench();
        Check.answers(0, "define in an empty slot", () -> bench.define(3, 3, 12, LEAST, 40));
        Check.same("the kind", bench.summary(3, 0), 3);
        Check.same("the size", bench.summary(3, 1), 12);
        Check.same("the seed", bench.summary(3, 2), LEAST);
        Check.same("the span", bench.summary(3, 3), 40);
        Check.same("the items", bench.summary(3, 4), 0);
        Check.same("the quotas", Benches.quotas(bench, 3), "12 12 12 12");
        bench.offerDrawn(3, 1, 5);
        bench.setQuota(3, 2, 0);
        Check.answers(5, "define in place of a summary", () -> bench.define(3, 0, 1, 5, 0));
        Check.same("the items that are left", bench.summary(3, 4), 0);
        Check.same("the new quotas", Benches.quotas(bench, 3), "1 1 1 1");
        Check.answers(5, "numbers go on after define", () -> bench.offer(3, 1, 1, 1, 1));
        for (int slot : Benches.WRONG_SLOTS) {
            Check.refuses(Benches.INDEX, bench, "define in slot " + slot, () -> bench.define(slot, 9, 99, 1, 99));
        }
        int[][] wrong = {{-1, 1, 0}, {4, 1, 0}, {0, 0, 0}, {0, 13, 0}, {0, 1, -1}, {0, 1, 41}, {LEAST, MOST, LEAST}};
        for (int[] w : wrong) {
            Check.refuses(Benches.ARGUMENT, bench, "define with " + w[0] + " " + w[1] + " " + w[2],
                    () -> bench.define(3, w[0], w[1], 1, w[2]));
        }
        Check.answers(4, "undo after refused calls", bench::undo);
    }

    private static void drop() {
        SampleBench bench = Benches.eight(0, 3);
        Check.answers(8, "drop", () -> bench.drop(0));
        Check.refuses(Benches.STATE, bench, "summary of a dropped slot", () -> bench.summary(0, 0));
        Check.answers(0, "drop of an empty slot", () -> bench.drop(0));
        Check.answers(9, "undo of it, which is a change", bench::undo);
        Check.refuses(Benches.STATE, bench, "the slot is empty still", () -> bench.summary(0, 0));
        Check.answers(8, "undo of the first drop", bench::undo);
        Check.same("the items are back", Benches.kept(bench, 0, 0), "0 1 2 3 4 5 6 7");
        for (int slot : Benches.WRONG_SLOTS) {
            Check.refuses(Benches.INDEX, bench, "drop of slot " + slot, () -> bench.drop(slot));
        }
    }

    private static void offer() {
        SampleBench bench = new SampleBench();
        bench.define(0, 0, 2, 1, 0);
        bench.define(1, 0, 2, 1, 2);
        Check.answers(0, "offer", () -> bench.offer(0, 0, 0, 1, -999));
        Check.answers(1, "offer to another slot", () -> bench.offer(1, 99, 3, 99, 999));
        Check.answers(2, "offer of all edges", () -> bench.offer(0, 99, 3, 99, 999));
        Check.same("the texts", Benches.written(bench, 0), "0/2/1/0;0,0,0,1,-999;2,99,3,99,999");
        bench.offer(1, 1, 1, 1, 1);
        bench.offer(1, 2, 2, 2, 2);
        Check.same("the span slides", Benches.written(bench, 1), "0/2/1/2;3,1,1,1,1;4,2,2,2,2");
        int[][] wrong = {{-1, 0, 1, 0}, {100, 0, 1, 0}, {0, -1, 1, 0}, {0, 4, 1, 0}, {0, 0, 0, 0}, {0, 0, 100, 0},
            {0, 0, 1, -1000}, {0, 0, 1, 1000}, {LEAST, MOST, LEAST, MOST}, {0, 0, -1, LEAST}};
        for (int[] w : wrong) {
            String what = "offer of " + w[0] + " " + w[1] + " " + w[2] + " " + w[3];
            Check.refuses(Benches.ARGUMENT, bench, what, () -> bench.offer(0, w[0], w[1], w[2], w[3]));
            Check.refuses(Benches.ARGUMENT, bench, what + " to an empty slot",
                    () -> bench.offer(2, w[0], w[1], w[2], w[3]));
            Check.refuses(Benches.INDEX, bench, what + " to no slot", () -> bench.offer(4, w[0], w[1], w[2], w[3]));
        }
        Check.refuses(Benches.STATE, bench, "offer to an empty slot", () -> bench.offer(2, 0, 0, 1, 0));
        Check.answers(5, "refused offers use no numbers", () -> bench.offer(0, 1, 1, 1, 1));
        fullLists();
    }

    private static void fullLists() {
        SampleBench bench = new SampleBench();
        bench.define(0, 0, 2, 1, 0);
        bench.define(1, 0, 2, 1, 40);
        bench.offerDrawn(0, 1, 59);
        Check.answers(59, "the 60th item", () -> bench.offer(0, 1, 1, 1, 1));
        Check.refuses(Benches.STATE, bench, "the 61st item", () -> bench.offer(0, 1, 1, 1, 1));
        Check.refuses(Benches.ARGUMENT, bench, "a wrong 61st item", () -> bench.offer(0, 100, 1, 1, 1));
        bench.offerDrawn(1, 1, 60);
        Check.same("a span keeps its last items", bench.kept(1, 0, 0), 80);
        Check.answers(120, "offer to a full span", () -> bench.offer(1, 1, 1, 1, 1));
        Check.same("the number of items of a full span", bench.summary(1, 4), 40);
        Check.same("its first item", bench.kept(1, 0, 0), 81);
        Check.same("its last item", bench.kept(1, 39, 0), 120);
        bench.define(2, 0, 2, 1, 1);
        bench.offer(2, 1, 1, 1, 1);
        bench.offer(2, 2, 2, 2, 2);
        bench.offer(2, 3, 3, 3, 3);
        Check.same("a span of one", Benches.written(bench, 2), "0/2/1/1;123,3,3,3,3");
    }

    private static void offerDrawn() {
        SampleBench bench = new SampleBench();
        bench.define(0, 0, 2, 1, 0);
        Check.answers(3, "offerDrawn", () -> bench.offerDrawn(0, 5, 3));
        Check.same("what is drawn from 5", Benches.written(bench, 0),
                "0/2/1/0;0,64,2,60,-746;1,26,0,51,-94;2,11,3,63,271");
        Check.answers(7, "offerDrawn from -1", () -> bench.offerDrawn(0, -1, 4));
        Check.same("what is drawn from -1", Benches.written(bench, 0), "0/2/1/0;0,64,2,60,-746;1,26,0,51,-94;"
                + "2,11,3,63,271;3,57,2,81,-106;4,28,0,51,393;5,79,3,75,-957;6,73,1,56,-808");
        Check.answers(7, "offerDrawn of none", () -> bench.offerDrawn(0, 1, 0));
        Check.answers(3, "undo of none, which is a change", bench::undo);
        Check.answers(60, "offerDrawn up to 60", () -> bench.offerDrawn(0, 9, 53));
        Check.answers(60, "offerDrawn of none to 60", () -> bench.offerDrawn(0, 9, 0));
        Check.refuses(Benches.STATE, bench, "offerDrawn beyond 60", () -> bench.offerDrawn(0, 9, 1));
        Check.refuses(Benches.STATE, bench, "offerDrawn to an empty slot", () -> bench.offerDrawn(1, 9, 0));
        for (int count : new int[] {-1, 61, LEAST, MOST}) {
            Check.refuses(Benches.ARGUMENT, bench, "offerDrawn of " + count, () -> bench.offerDrawn(1, 9, count));
            Check.refuses(Benches.INDEX, bench, "offerDrawn to no slot", () -> bench.offerDrawn(-1, 9, count));
        }
        bench.define(2, 0, 2, 1, 3);
        Check.answers(3, "offerDrawn to a span", () -> bench.offerDrawn(2, 5, 60));
        Check.same("numbers of a span", Benches.kept(bench, 2, 0), "117 118 119");
        bench.define(3, 0, 2, 1, 0);
        bench.offerDrawn(3, 5, 1);
        Check.refuses(Benches.STATE, bench, "60 more than one", () -> bench.offerDrawn(3, 9, 60));
        Check.answers(121, "the next number", () -> bench.offer(3, 1, 1, 1, 1));
    }

    private static void summary() {
        int[][] due = {{0, 3, 7, 0, 8, 3, 0, 6}, {1, 3, 7, 0, 8, 3, 0, 6}, {2, 1, 7, 0, 8, 4, 0, 6},
            {3, 3, 7, 0, 8, 3, 0, 6}, {0, 8, 7, 0, 8, 8, 1, 6}, {1, 9, 7, 0, 8, 8, 1, 6}, {2, 2, 7, 0, 8, 8, 1, 6},
            {3, 6, 7, 0, 8, 6, 1, 6}, {3, 5, 7, 0, 8, 5, 0, 6}};
        for (int[] d : due) {
            SampleBench bench = Benches.eight(d[0], d[1]);
            for (int what = 0; what < 8; what++) {
                Check.same("kind " + d[0] + " size " + d[1] + " number " + what, bench.summary(0, what), d[what]);
            }
        }
        SampleBench bench = Benches.eight(2, 12);
        bench.setQuota(0, 3, 1);
        Check.same("kind 2 with a quota of one", bench.summary(0, 5) + " " + bench.summary(0, 6), "7 0");
        for (int kind = 0; kind < 4; kind++) {
            bench.define(1, kind, 1, 1, 0);
            Check.same("nothing", bench.summary(1, 4) + bench.summary(1, 5) + bench.summary(1, 7), 0);
            Check.same("nothing is complete", bench.summary(1, 6), 1);
        }
        for (int what : new int[] {-1, 8, LEAST, MOST}) {
            Check.refuses(Benches.ARGUMENT, bench, "summary " + what, () -> bench.summary(0, what));
            Check.refuses(Benches.ARGUMENT, bench, "summary " + what + " of none", () -> bench.summary(2, what));
            Check.refuses(Benches.INDEX, bench, "summary " + what + " of no slot", () -> bench.summary(4, what));
        }
        Check.refuses(Benches.STATE, bench, "summary of an empty slot", () -> bench.summary(2, 7));
        ties();
    }

    // Mixes that are equal: of several items with the same priority, that of the lower number is first.
    private static void ties() {
        String pair = ";6615,1,0,9,1;56983,2,0,9,2";
        Check.same("equal mixes, kind 0", Benches.sampled(Benches.read("0/2/0/0" + pair), 0, 0), "6615 56983");
        Check.same("equal mixes, kind 1", Benches.sampled(Benches.read("1/2/0/0" + pair), 0, 0), "6615 56983");
        Check.same("equal mixes, kind 2", Benches.sampled(Benches.read("2/2/0/0" + pair), 0, 0), "6615 56983");
        SampleBench keys = Benches.read("3/2/535012/0;4,32,0,1,1;5,30,0,1,1");
        Check.same("equal mixes of keys", keys.mix(0, 0) - keys.mix(0, 1), 0);
        Check.same("equal mixes, kind 3", Benches.sampled(keys, 0, 0), "4 5");
        SampleBench half = Benches.read("1/2/0/0;127,1,0,1,1;254,1,0,2,1");
        Check.same("a mix that is twice the other one", half.mix(0, 1), 2 * half.mix(0, 0));
        Check.same("equal fractions", Benches.sampled(half, 0, 0), "127 254");
        Check.same("a lower fraction", Benches.sampled(Benches.read("1/2/0/0;127,1,0,1,1;254,1,0,3,1"), 0, 0),
                "254 127");
        Check.same("a greater fraction", Benches.sampled(Benches.read("1/2/0/0;127,1,0,2,1;254,1,0,3,1"), 0, 0),
                "127 254");
    }

    private static void setQuota() {
        SampleBench bench = Benches.eight(2, 2);
        Check.answers(2, "setQuota", () -> bench.setQuota(0, 1, 0));
        Check.answers(0, "setQuota again", () -> bench.setQuota(0, 1, 12));
        Check.answers(2, "setQuota of stratum 3", () -> bench.setQuota(0, 3, 1));
        Check.same("the quotas", Benches.quotas(bench, 0), "2 12 2 1");
        Check.same("the sample", Benches.sampled(bench, 0, 0), "0 4 5 1 2 6 3");
        bench.define(1, 0, 3, 7, 0);
        Check.answers(3, "setQuota for kind 0", () -> bench.setQuota(1, 0, 5));
        Check.same("its quotas", Benches.quotas(bench, 1), "5 3 3 3");
        for (int stratum : Benches.WRONG_SLOTS) {
            Check.refuses(Benches.INDEX, bench, "setQuota of no stratum", () -> bench.setQuota(0, stratum, 13));
            Check.refuses(Benches.INDEX, bench, "setQuota of no slot", () -> bench.setQuota(stratum, 0, 1));
            Check.refuses(Benches.INDEX, bench, "setQuota of nothing", () -> bench.setQuota(2, stratum, 1));
        }
        for (int quota : new int[] {-1, 13, LEAST, MOST}) {
            Check.refuses(Benches.ARGUMENT, bench, "setQuota to " + quota, () -> bench.setQuota(0, 0, quota));
            Check.refuses(Benches.ARGUMENT, bench, "setQuota to " + quota, () -> bench.setQuota(2, 0, quota));
        }
        Check.refuses(Benches.STATE, bench, "setQuota of an empty slot", () -> bench.setQuota(2, 0, 1));
    }

    private static void allocate() {
        SampleBench bench = Benches.eight(2, 2);
        Check.answers(1, "equal shares", () -> bench.allocate(0, 4, false));
        Check.same("equal shares", Benches.quotas(bench, 0), "1 1 1 1");
        bench.allocate(0, 6, false);
        Check.same("equal remainders go to the lowest strata", Benches.quotas(bench, 0), "2 2 1 1");
        Check.answers(0, "allocate nothing", () -> bench.allocate(0, 0, true));
        Check.same("nothing", Benches.quotas(bench, 0), "0 0 0 0");
        // The weights are 60, 80, 100 and 139 of 379: shares of 1, 2, 3 and 4 with the remainders 341, 202, 63, 152.
        Check.answers(2, "allocate by weights", () -> bench.allocate(0, 12, true));
        Check.same("by weights", Benches.quotas(bench, 0), "2 3 3 4");
        // Shares of 0, 0, 0 and 1 with the remainders 180, 240, 300 and 38.
        Check.answers(0, "allocate 3 by weights", () -> bench.allocate(0, 3, true));
        Check.same("3 by weights", Benches.quotas(bench, 0), "0 1 1 1");
        bench.define(1, 0, 5, 1, 0);
        Check.refuses(Benches.ARITHMETIC, bench, "allocate without items", () -> bench.allocate(1, 4, false));
        Check.refuses(Benches.ARITHMETIC, bench, "allocate without items", () -> bench.allocate(1, 0, true));
        bench.offer(1, 1, 2, 1, 1);
        Check.answers(0, "one stratum gets all", () -> bench.allocate(1, 12, true));
        Check.same("one stratum gets all", Benches.quotas(bench, 1), "0 0 12 0");
        for (int total : new int[] {-1, 13, LEAST, MOST}) {
            Check.refuses(Benches.ARGUMENT, bench, "allocate " + total, () -> bench.allocate(0, total, true));
            Check.refuses(Benches.ARGUMENT, bench, "allocate to none", () -> bench.allocate(2, total, true));
            Check.refuses(Benches.INDEX, bench, "allocate to no slot", () -> bench.allocate(-1, total, true));
        }
        Check.refuses(Benches.STATE, bench, "allocate to an empty slot", () -> bench.allocate(2, 1, true));
    }

    private static void quota() {
        SampleBench bench = Benches.eight(2, 2);
        bench.setQuota(0, 3, 12);
        Check.same("a quota", bench.quota(0, 3), 12);
        Check.same("another quota", bench.quota(0, 2), 2);
        for (int wrong : Benches.WRONG_SLOTS) {
            Check.refuses(Benches.INDEX, bench, "quota of no stratum", () -> bench.quota(0, wrong));
            Check.refuses(Benches.INDEX, bench, "quota of no stratum of none", () -> bench.quota(1, wrong));
            Check.refuses(Benches.INDEX, bench, "quota of no slot", () -> bench.quota(wrong, 0));
        }
        Check.refuses(Benches.STATE, bench, "quota of an empty slot", () -> bench.quota(1, 0));
    }

    private static void merge() {
        SampleBench bench = new SampleBench();
        bench.define(0, 1, 3, 7, 0);
        bench.define(1, 1, 3, 7, 0);
        bench.setQuota(1, 0, 9);
        for (int i = 0; i < 8; i++) {
            int[] item = Benches.EIGHT[i];
            bench.offer(i % 3 == 0 ? 1 : 0, item[0], item[1], item[2], item[3]);
        }
        Check.answers(8, "merge", () -> bench.merge(0, 1));
        Check.same("the list in ascending order", Benches.written(bench, 1), "1/3/7/0;0,5,0,10,100;1,5,1,20,-50;"
                + "2,9,2,30,7;3,9,3,40,8;4,20,0,50,999;5,30,1,60,-999;6,99,2,70,0;7,0,3,99,-1");
        Check.same("the quotas stay", Benches.quotas(bench, 1), "9 3 3 3");
        Check.same("the first one stays", Benches.kept(bench, 0, 0), "1 2 4 5 7");
        Check.answers(8, "merge of what is there", () -> bench.merge(0, 1));
        Check.answers(8, "merge into itself", () -> bench.merge(1, 1));
        Check.answers(9, "undo of it, which is a change", bench::undo);
        Check.answers(8, "undo", bench::undo);
        Check.answers(7, "undo of the first merge", bench::undo);
        Check.same("what was there", Benches.kept(bench, 1, 0), "0 3 6");
        mergeSpans();
        mergeOfSameNumbers();
        mergeRefused();
    }

    private static void mergeSpans() {
        SampleBench bench = new SampleBench();
        bench.define(0, 0, 3, 7, 4);
        bench.define(1, 0, 3, 7, 3);
        bench.offerDrawn(0, 1, 3);
        bench.offerDrawn(1, 1, 2);
        bench.offerDrawn(0, 2, 1);
        Check.answers(3, "merge into a span", () -> bench.merge(0, 1));
        Check.same("the last items of both", Benches.kept(bench, 1, 0), "3 4 5");
        Check.answers(4, "merge back", () -> bench.merge(1, 0));
        Check.same("the last items of all", Benches.kept(bench, 0, 0), "2 3 4 5");
        bench.define(2, 0, 3, 7, 40);
        bench.define(3, 0, 3, 7, 0);
        bench.offerDrawn(2, 1, 40);
        bench.offerDrawn(3, 1, 60);
        Check.answers(40, "merge of 60 into 40", () -> bench.merge(3, 2));
        Check.same("the first one then", bench.kept(2, 0, 0), 66);
        Check.same("the last one then", bench.kept(2, 39, 0), 105);
    }

    private static void mergeOfSameNumbers() {
        SampleBench bench = Benches.read("0/3/7/0;1,1,1,1,1;5,5,1,5,5");
        Check.feed(bench, "0/3/7/0;1,9,2,9,9;3,3,3,3,3;5,9,2,9,9;7,7,0,7,7");
        bench.read(1);
        Check.answers(4, "merge of same numbers", () -> bench.merge(1, 0));
        Check.same("the own items stay", Benches.written(bench, 0), "0/3/7/0;1,1,1,1,1;3,3,3,3,3;5,5,1,5,5;7,7,0,7,7");
    }

    private static void mergeRefused() {
        SampleBench bench = new SampleBench();
        bench.define(0, 0, 3, 7, 0);
        bench.offerDrawn(0, 1, 31);
        bench.define(1, 0, 3, 7, 0);
        bench.offerDrawn(1, 1, 30);
        Check.refuses(Benches.UNSUPPORTED, bench, "merge to 61", () -> bench.merge(0, 1));
        bench.define(2, 0, 3, 7, 5);
        Check.answers(5, "merge into a span is no matter", () -> bench.merge(0, 2));
        bench.copy(1, 3);
        bench.undo();
        bench.undo();
        int[][] others = {{1, 3, 7}, {0, 4, 7}, {0, 3, 8}};
        for (int[] o : others) {
            bench.define(2, o[0], o[1], o[2], 0);
            String what = "merge of " + o[0] + " " + o[1] + " " + o[2];
            Check.refuses(Benches.UNSUPPORTED, bench, what, () -> bench.merge(2, 1));
            Check.refuses(Benches.UNSUPPORTED, bench, what + " into", () -> bench.merge(1, 2));
        }
        Check.refuses(Benches.STATE, bench, "merge from an empty slot", () -> bench.merge(3, 1));
        Check.refuses(Benches.STATE, bench, "merge into an empty slot", () -> bench.merge(1, 3));
        for (int wrong : Benches.WRONG_SLOTS) {
            Check.refuses(Benches.INDEX, bench, "merge from no slot", () -> bench.merge(wrong, 3));
            Check.refuses(Benches.INDEX, bench, "merge into no slot", () -> bench.merge(3, wrong));
        }
        bench.define(2, 0, 3, 7, 0);
        bench.offerDrawn(2, 1, 29);
        Check.answers(60, "merge to 60", () -> bench.merge(0, 2));
        Check.answers(60, "merge of what 60 items hold", () -> bench.merge(0, 2));
        bench.copy(2, 3);
        Check.answers(60, "merge of the same 60", () -> bench.merge(2, 3));
        bench.define(3, 0, 3, 7, 1);
        bench.merge(0, 3);
        Check.answers(60, "merge of the last of them", () -> bench.merge(3, 2));
    }

    private static void copy() {
        SampleBench bench = Benches.eight(2, 3);
        bench.setQuota(0, 2, 0);
        Check.answers(8, "copy", () -> bench.copy(0, 3));
        Check.same("the copy", Benches.written(bench, 3), Benches.written(bench, 0));
        Check.same("the quotas of the copy", Benches.quotas(bench, 3), "3 3 0 3");
        bench.offer(3, 1, 1, 1, 1);
        bench.setQuota(3, 2, 1);
        Check.same("the first one then", bench.summary(0, 4), 8);
        Check.same("the quotas of the first one then", Benches.quotas(bench, 0), "3 3 0 3");
        Check.answers(9, "copy back", () -> bench.copy(3, 0));
        Check.answers(9, "copy into itself", () -> bench.copy(0, 0));
        Check.same("it is the same", Benches.written(bench, 0), Benches.written(bench, 3));
        Check.answers(9, "undo of it, which is a change", bench::undo);
        copyRefused();
    }

    private static void copyRefused() {
        SampleBench bench = Benches.eight(2, 3);
        Check.refuses(Benches.STATE, bench, "copy from an empty slot", () -> bench.copy(1, 0));
        Check.refuses(Benches.STATE, bench, "copy from an empty slot into itself", () -> bench.copy(1, 1));
        for (int wrong : Benches.WRONG_SLOTS) {
            Check.refuses(Benches.INDEX, bench, "copy from no slot", () -> bench.copy(wrong, 0));
            Check.refuses(Benches.INDEX, bench, "copy into no slot", () -> bench.copy(0, wrong));
            Check.refuses(Benches.INDEX, bench, "copy from none into no slot", () -> bench.copy(1, wrong));
        }
        bench.define(1, 0, 1, 1, 0);
        Check.answers(0, "copy of no items", () -> bench.copy(1, 0));
    }

    public static void main(String[] args) {
        newObject();
        define();
        drop();
        offer();
        offerDrawn();
        summary();
        setQuota();
        allocate();
        quota();
        merge();
        copy();
        Check.end();
    }
}
