/** The boundary cases that the description names up to its samples. */
final class GeneralBounds {
    // With this seed, the mixes of 6 and 8 are equal.
    private static final int TYING_SEED = -943402376;

    private GeneralBounds() {
    }

    static void test() {
        calls();
        general();
        items();
        mixing();
        summaries();
        samples();
        completeness();
    }

    private static void calls() {
        Document.section("What it is");
        Document.isPlain("A bench of sampling summaries: uniform, weighted, stratified and distinct samples that are "
                + "found by priorities from seeds, sliding spans, allocation of quotas, merging of summaries, "
                + "estimates of counts, sums and weights, quantiles, resampled means, distances of samples, and texts "
                + "of summaries that can be read back.");
        Document.says("An object is used for at most 512 calls after it has been made; what later calls answer is "
                + "free.", () -> {
            SampleBench bench = new SampleBench();
            bench.define(0, 3, 12, 7, 40);
            for (int call = 2; call < 512; call++) {
                bench.offerDrawn(0, call, 60);
            }
            Check.answers(30600, "the 512th call", () -> bench.offer(0, 1, 1, 1, 1));
        });
    }

    private static void general() {
        Document.section("Description");
        Document.isPlain("All numbers are integers, apart from two methods that return floating-point numbers.",
                "The class is not thread-safe.",
                "The constructor and the methods follow, a promise each: the signature, then what it does.");
        Document.says("A method that throws an exception or returns an error code leaves the state unchanged, unless "
                + "its description says otherwise.", GeneralBounds::refusedCalls);
        Document.says("If several exceptions apply, the one named first is thrown.", GeneralBounds::firstNamed);
    }

    private static void refusedCalls() {
        Bounds.refused(Benches.ARGUMENT, Bounds::rich, "define", b -> b.define(0, 0, 13, 1, 0));
        Bounds.refused(Benches.INDEX, Bounds::rich, "drop", b -> b.drop(4));
        Bounds.refused(Benches.ARGUMENT, Bounds::rich, "offer", b -> b.offer(1, 1, 1, 1, 1000));
        Bounds.refused(Benches.STATE, Bounds::rich, "offerDrawn", b -> b.offerDrawn(0, 1, 53));
        Bounds.refused(Benches.ARGUMENT, Bounds::rich, "setQuota", b -> b.setQuota(0, 0, 13));
        Bounds.refused(Benches.ARITHMETIC, Bounds::rich, "allocate", b -> b.allocate(2, 1, true));
        Bounds.refused(Benches.UNSUPPORTED, Bounds::rich, "merge", b -> b.merge(0, 1));
        Bounds.refused(Benches.STATE, Bounds::rich, "copy", b -> b.copy(3, 0));
        Bounds.refused(Benches.ELEMENT, Bounds::rich, "commonKey", b -> b.commonKey(2));
        Bounds.refused(Benches.INDEX, Bounds::rich, "write", b -> b.write(4));
        Bounds.refused(Benches.STATE, SampleBench::new, "undo", SampleBench::undo);
        Bounds.refused(Benches.STATE, SampleBench::new, "restore", SampleBench::restore);
        Check.same("an error code of read leaves all but the buffer",
                Bounds.sameLooks(() -> afterRead("3/1/5/"), () -> Bounds.rich("")), true);
        Check.same("an exception of read leaves all but the buffer",
                Bounds.sameLooks(() -> afterRead("4/1/5/0"), () -> Bounds.rich("")), true);
    }

    private static SampleBench afterRead(String text) {
        SampleBench bench = Bounds.rich(text);
        Check.outcome(() -> bench.read(0));
        return bench;
    }

    // One fault after the other is mended: the exception that is named next comes then.
    private static void firstNamed() {
        SampleBench bench = Bounds.rich();
        Check.answers("IndexOutOfBoundsException", "no slot, no range", () -> bench.allocate(4, 13, true));
        Check.answers("IllegalArgumentException", "no range, no summary", () -> bench.allocate(3, 13, true));
        Check.answers("IllegalArgumentException", "no range, no items", () -> bench.allocate(2, 13, true));
        Check.answers("IllegalStateException", "no summary", () -> bench.allocate(3, 12, true));
        Check.answers("ArithmeticException", "no items", () -> bench.allocate(2, 12, true));
        Check.answers(2, "nothing is wrong", () -> bench.allocate(0, 12, true));
        Check.answers("IllegalStateException", "no summary and an empty sample", () -> bench.distance(2, 3));
        Check.answers("NoSuchElementException", "an empty sample", () -> bench.distance(2, 0));
    }

    private static void items() {
        Document.says("An item has a number, a key from 0 to 99, a stratum from 0 to 3, a weight from 1 to 99, and a "
                + "value from -999 to 999.", () -> {
            Bounds.outside(Benches.ARGUMENT, Bounds::rich, "key", 0, 99, (b, n) -> b.offer(0, n, 0, 1, 0));
            Bounds.outside(Benches.ARGUMENT, Bounds::rich, "stratum", 0, 3, (b, n) -> b.offer(0, 0, n, 1, 0));
            Bounds.outside(Benches.ARGUMENT, Bounds::rich, "weight", 1, 99, (b, n) -> b.offer(0, 0, 0, n, 0));
            Bounds.outside(Benches.ARGUMENT, Bounds::rich, "value", -999, 999, (b, n) -> b.offer(0, 0, 0, 1, n));
            SampleBench bench = Bounds.noItems(0);
            bench.offer(0, 0, 0, 1, -999);
            bench.offer(0, 99, 3, 99, 999);
            Check.same("the least and the greatest", Benches.written(bench, 0),
                    "0/3/7/0;0,0,0,1,-999;1,99,3,99,999");
        });
        Document.says("The items that are offered are numbered from 0 in their order, whatever the slot is to which "
                + "they are offered; numbers are not used again.", GeneralBounds::numbers);
    }

    private static void numbers() {
        SampleBench bench = new SampleBench();
        bench.define(0, 0, 1, 1, 1);
        bench.define(3, 1, 1, 1, 0);
        Check.answers(0, "the first item", () -> bench.offer(3, 1, 1, 1, 1));
        Check.answers(1, "an item in another slot", () -> bench.offer(0, 1, 1, 1, 1));
        Check.answers(2, "an item after which one is removed", () -> bench.offer(0, 1, 1, 1, 1));
        bench.offerDrawn(0, 1, 3);
        Check.answers(6, "an item after three drawn ones", () -> bench.offer(3, 1, 1, 1, 1));
        Check.answers("IllegalStateException", "a refused offer", () -> bench.offer(2, 1, 1, 1, 1));
        Check.answers("IllegalArgumentException", "a refused offer", () -> bench.offer(0, 1, 1, 0, 1));
        bench.offerDrawn(3, 1, 0);
        Check.answers(7, "an item after refused ones and none", () -> bench.offer(0, 1, 1, 1, 1));
        bench.drop(0);
        bench.define(3, 0, 1, 1, 0);
        Check.answers(8, "an item after all are gone", () -> bench.offer(3, 1, 1, 1, 1));
    }

    private static void mixing() {
        Document.says("The mix of two ints a and b is found in this way, with overflow: x is a XOR (b * -1640531527); "
                + "x becomes x XOR (x >>> 16), then x * -2048144789, then x XOR (x >>> 13), then x * -1028477387, and "
                + "then x XOR (x >>> 16).", () -> {
            long[][] due = {
                {Bounds.LEAST, 1832674721L, 1024632171L, 828124610L, 808603684L},
                {Bounds.MOST, 2043416233L, 1449607080L, 684727702L, 343921927L},
                {-1, 32599866L, 996586155L, 2052013311L, 671384722L},
                {7, 415870661L, 1478832578L, 490190196L, 1346567406L},
            };
            for (long[] d : due) {
                SampleBench bench = Benches.read("0/1/" + d[0] + "/0;0,0,0,1,0;1,0,0,1,0;99,0,0,1,0;999999,0,0,1,0");
                SampleBench keys = Benches.read("3/1/" + d[0] + "/0;0,0,0,1,0;1,1,0,1,0;2,99,0,1,0");
                for (int i = 0; i < 4; i++) {
                    Check.same("seed " + d[0] + " item " + i, bench.mix(0, i), d[i + 1]);
                }
                for (int i = 0; i < 3; i++) {
                    Check.same("seed " + d[0] + " key " + i, keys.mix(0, i), d[i + 1]);
                }
            }
        });
        Document.says("The mix is the long (x AND 2147483647) + 1, a number from 1 to 2147483648.", () -> {
            // The mixes of 0 and 1 with seeds for which x is 0, -2147483648, 2147483647 and -1.
            long[][] due = {{0, 0, 1}, {2126943072, 0, 1}, {-1676833246, 0, 2147483648L}, {857579651, 0, 2147483648L},
                {-1640531527, 1, 1}, {-521016615, 1, 1}, {37418907, 1, 2147483648L}, {-1389700806, 1, 2147483648L}};
            for (long[] d : due) {
                SampleBench bench = Benches.read("1/1/" + d[0] + "/0;0,0,0,9,0;1,0,0,9,0");
                Check.same("the mix with the seed " + d[0], bench.mix(0, (int) d[1]), d[2]);
                Check.same("the first item with the seed " + d[0], bench.sampled(0, 0, 0), d[2] == 1 ? d[1] : 1 - d[1]);
            }
        });
    }

    private static void summaries() {
        Document.says("There are 4 slots, numbered from 0, each of which is empty or holds a summary; at first all are "
                + "empty.", () -> {
            for (int slot = 0; slot < 4; slot++) {
                int at = slot;
                Bounds.refused(Benches.STATE, SampleBench::new, "slot " + slot, b -> b.summary(at, 0));
                Bounds.answers(0, SampleBench::new, "slot " + slot, b -> b.define(at, 0, 1, 1, 0));
            }
            Bounds.noSuchSlot((b, slot) -> b.define(slot, 0, 1, 1, 0));
            Check.same("all slots can hold one", fourSummaries().save(), 4);
        });
        Document.says("A summary has a kind from 0 to 3, a size from 1 to 12, a seed, a span from 0 to 40, four "
                + "quotas, and a list of kept items in ascending order of their numbers.", GeneralBounds::settings);
        Document.says("An item that is offered to it is put at the end of the list; then, if the span is not 0 and the "
                + "list is longer than the span, items are removed from its beginning until it is as long as the span.",
                GeneralBounds::spans);
        Document.says("With the span 0, a list holds at most 60 items.", () -> {
            Bounds.answers(60, () -> Bounds.drawn(0, 3, 0, 59), "59 and one", b -> b.offerDrawn(0, 1, 1));
            Bounds.answers(59, () -> Bounds.drawn(0, 3, 0, 59), "the 60th", b -> b.offer(0, 1, 1, 1, 1));
            Bounds.refused(Benches.STATE, () -> Bounds.drawn(0, 3, 0, 60), "the 61st", b -> b.offer(0, 1, 1, 1, 1));
            Bounds.refused(Benches.STATE, () -> Bounds.drawn(0, 3, 0, 59), "59 and two", b -> b.offerDrawn(0, 1, 2));
            Bounds.answers(40, () -> Bounds.drawn(0, 3, 40, 60), "any number with a span", b -> b.summary(0, 4));
            Bounds.answers(60, () -> Bounds.drawn(0, 3, 40, 60), "the 61st with a span", b -> b.offer(0, 1, 1, 1, 1));
        });
    }

    private static SampleBench fourSummaries() {
        SampleBench bench = new SampleBench();
        for (int slot = 0; slot < 4; slot++) {
            bench.define(slot, slot, 1, 1, 0);
        }
        return bench;
    }

    private static void settings() {
        Bounds.outside(Benches.ARGUMENT, Bounds::rich, "kind", 0, 3, (b, n) -> b.define(0, n, 1, 1, 0));
        Bounds.outside(Benches.ARGUMENT, Bounds::rich, "size", 1, 12, (b, n) -> b.define(0, 0, n, 1, 0));
        Bounds.outside(Benches.ARGUMENT, Bounds::rich, "span", 0, 40, (b, n) -> b.define(0, 0, 1, 1, n));
        Bounds.outside(Benches.INDEX, Bounds::rich, "quota", 0, 3, (b, n) -> b.quota(0, n));
        SampleBench bench = new SampleBench();
        bench.define(0, 3, 12, Bounds.MOST, 40);
        bench.define(1, 0, 1, Bounds.LEAST, 0);
        Check.same("the greatest", Benches.written(bench, 0), "3/12/2147483647/40");
        Check.same("the least", Benches.written(bench, 1), "0/1/-2147483648/0");
        SampleBench merged = Benches.read("0/3/7/0;1,1,1,1,1;5,1,1,1,1");
        Check.feed(merged, "0/3/7/0;0,1,1,1,1;3,1,1,1,1;6,1,1,1,1");
        merged.read(1);
        merged.merge(1, 0);
        merged.offer(0, 1, 1, 1, 1);
        Check.same("ascending numbers", Benches.kept(merged, 0, 0), "0 1 3 5 6 7");
    }

    private static void spans() {
        String[] due = {"0 1 2 3 4", "4", "3 4", "2 3 4", "1 2 3 4", "0 1 2 3 4", "0 1 2 3 4"};
        for (int span = 0; span < due.length; span++) {
            SampleBench bench = Bounds.drawn(0, 3, span, 4);
            bench.offer(0, 9, 3, 9, 9);
            Check.same("five items, span " + span, Benches.kept(bench, 0, 0), due[span]);
            Check.same("the last key, span " + span, bench.kept(0, bench.summary(0, 4) - 1, 1), 9);
        }
        int[][] counts = {{39, 39, 0}, {40, 40, 0}, {41, 40, 1}, {60, 40, 20}};
        for (int[] c : counts) {
            SampleBench bench = Bounds.drawn(0, 3, 40, c[0]);
            Check.same(c[0] + " items, span 40", bench.summary(0, 4), c[1]);
            Check.same("the first of " + c[0] + " items, span 40", bench.kept(0, 0, 0), c[2]);
        }
    }

    private static void samples() {
        Document.isPlain("Each kept item has a priority.",
                "Kind 0, uniform: the priority is the mix of the seed and the number of the item.",
                "Kind 2, stratified: the priority is as for kind 0.",
                "Kind 3, distinct: the priority is the mix of the seed and the key.");
        Document.says("The sample of a summary is a list of kept items, as follows; the lower one of two priorities is "
                + "first, and of equal ones that of the lower number.", GeneralBounds::ties);
        Document.says("The sample consists of the first items by priority, as many as the size says, or all of them if "
                + "there are fewer.", () -> {
            sampleIs("", Bounds.noItems(0));
            sampleIs("3", Benches.eight(0, 1));
            sampleIs("3 0 7 2 6 5 1", Benches.eight(0, 7));
            sampleIs("3 0 7 2 6 5 1 4", Benches.eight(0, 8));
            sampleIs("3 0 7 2 6 5 1 4", Benches.eight(0, 9));
            sampleIs("10 3 0 7 2 6 5 8 1 9 4", Bounds.drawn(0, 12, 0, 11));
            sampleIs("10 3 0 7 2 6 5 8 1 9 4 11", Bounds.drawn(0, 12, 0, 12));
            sampleIs("10 3 0 12 7 2 6 5 8 1 9 4", Bounds.drawn(0, 12, 0, 13));
            sampleIs("", Bounds.noItems(1));
            sampleIs("7 3 6 5 2 4 0", Benches.eight(1, 7));
            sampleIs("7 3 6 5 2 4 0 1", Benches.eight(1, 8));
            sampleIs("7 3 6 5 2 4 0 1", Benches.eight(1, 9));
        });
        Document.says("Kind 1, weighted: as kind 0, but the priority is the fraction of the mix divided by the weight "
                + "of the item.", GeneralBounds::fractions);
        Document.says("The sample consists, for each stratum in ascending order, of the first kept items of this "
                + "stratum by priority, as many as its quota says, or all of them if there are fewer.", () -> {
            sampleIs("", Bounds.noItems(2));
            sampleIs("", Bounds.stratified(0, 0, 0, 0));
            sampleIs("0 5 2 3", Bounds.stratified(1, 1, 1, 1));
            sampleIs("0 4 5 1 2 6 3 7", Bounds.stratified(2, 2, 2, 2));
            sampleIs("0 4 5 1 2 6 3 7", Bounds.stratified(3, 12, 3, 12));
            sampleIs("0 4 5 3 7", Bounds.stratified(2, 1, 0, 12));
            sampleIs("3 1 2 0", Benches.read("2/1/7/0;0,0,3,1,1;1,0,1,1,1;2,0,2,1,1;3,0,0,1,1"));
            sampleIs("0 3 1", Benches.read("2/2/7/0;0,0,1,1,1;1,0,3,1,1;3,0,3,1,1"));
        });
        Document.says("Of the kept items with the same key, only that with the lowest number is a candidate.", () -> {
            sampleIs("7 6 4 0 5 2", Benches.eight(3, 12));
            SampleBench slid = new SampleBench();
            slid.define(0, 3, 12, 7, 7);
            Benches.offerEight(slid, 0);
            sampleIs("7 6 4 1 5 2", slid);
            sampleIs("0", Benches.read("3/12/7/0;0,5,0,1,1;1,5,0,1,1;2,5,0,1,1"));
        });
        Document.says("The sample consists of the first candidates by priority, as many as the size says, or all of "
                + "them if there are fewer.", () -> {
            sampleIs("", Bounds.noItems(3));
            sampleIs("7", Benches.eight(3, 1));
            sampleIs("7 6 4 0 5", Benches.eight(3, 5));
            sampleIs("7 6 4 0 5 2", Benches.eight(3, 6));
            sampleIs("7 6 4 0 5 2", Benches.eight(3, 7));
        });
    }

    private static void sampleIs(String due, SampleBench bench) {
        Check.same("the sample of kind " + bench.summary(0, 0) + ", size " + bench.summary(0, 1),
                Benches.sampled(bench, 0, 0), due);
    }

    private static void ties() {
        String head = "/" + TYING_SEED + "/0;";
        for (int kind = 0; kind < 3; kind++) {
            SampleBench bench = Benches.read(kind + "/1" + head + "6,1,0,9,1;8,2,0,9,2");
            Check.same("the mixes are equal", bench.mix(0, 0) - bench.mix(0, 1), 0);
            sampleIs("6", bench);
            sampleIs("6 8", Benches.read(kind + "/2" + head + "6,1,0,9,1;8,2,0,9,2"));
        }
        sampleIs("0 1", Benches.read("3/2" + head + "0,6,0,9,1;1,8,0,9,2"));
        sampleIs("0", Benches.read("3/1" + head + "0,8,0,9,1;1,6,0,9,2"));
        // The mix of 254 is twice that of 127, so that the fractions are equal.
        sampleIs("127", Benches.read("1/1/0/0;127,1,0,1,1;254,1,0,2,1"));
        sampleIs("127 254", Benches.read("1/2/0/0;127,1,0,33,1;254,1,0,66,1"));
    }

    private static void fractions() {
        // The mixes are 1510108591 and 1132581426: the first two pairs of fractions differ by 23 / 96 and 1 / 4 alone.
        sampleIs("1", Benches.read("1/1/5284/0;0,1,0,96,1;1,1,0,72,1"));
        sampleIs("1", Benches.read("1/1/5284/0;0,1,0,92,1;1,1,0,69,1"));
        sampleIs("0", Benches.read("1/1/5284/0;0,1,0,4,1;1,1,0,1,1"));
        // Products of mixes and weights such as 1764033681 * 98 are too great for an int.
        int[] seeds = {3, 7, 10, 13, 14, 15, 23, 24, 26, 27};
        for (int seed : seeds) {
            sampleIs("0", Benches.read("1/1/" + seed + "/0;0,1,0,99,1;1,1,0,98,1"));
        }
    }

    private static void completeness() {
        Document.says("For kind 0 and 1, all kept items are candidates.", () -> {
            SampleBench same = Benches.read("0/2/7/0;0,5,0,1,1;1,5,0,1,1;2,5,0,1,1");
            Check.same("kind 0 with the same key", Benches.sampled(same, 0, 0), "0 2");
            Check.same("it is not complete", same.summary(0, 6), 0);
            SampleBench weighted = Benches.read("1/3/7/0;0,5,0,1,1;1,5,0,1,1;2,5,0,1,1");
            Check.same("kind 1 with the same key", Benches.sampled(weighted, 0, 0), "0 2 1");
            Check.same("it is complete", weighted.summary(0, 6), 1);
        });
        Document.says("The sample of the kinds 0, 1 and 3 is complete if it contains all candidates; otherwise, the "
                + "limit item is the first candidate by priority that is not in the sample.", () -> {
            int[][] due = {{0, 7, 0}, {0, 8, 1}, {0, 9, 1}, {1, 7, 0}, {1, 8, 1}, {1, 9, 1}, {3, 5, 0}, {3, 6, 1},
                {3, 7, 1}};
            for (int[] d : due) {
                Check.same("kind " + d[0] + ", size " + d[1], Benches.eight(d[0], d[1]).summary(0, 6), d[2]);
            }
            for (int kind : new int[] {0, 1, 3}) {
                Check.same("no items of kind " + kind, Bounds.noItems(kind).summary(0, 6), 1);
            }
            // The limit item can be seen in the estimated count: that of its mix and of no other one.
            long[] counts = {4, 5, 7, 7, 6, 6, 6};
            for (int size = 1; size <= counts.length; size++) {
                Check.same("the limit item of size " + size, Benches.eight(3, size).estimate(0, 0), counts[size - 1]);
            }
        });
    }
}
