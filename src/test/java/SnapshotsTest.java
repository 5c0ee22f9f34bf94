import java.util.List;
import java.util.function.Consumer;

/** Promises 31 to 33: taking changes back, saving and restoring. */
public final class SnapshotsTest {
    private static final List<Consumer<SampleBench>> CHANGES = List.of(
            bench -> bench.define(0, 2, 3, 7, 0), bench -> bench.offer(0, 1, 1, 1, 1),
            bench -> bench.offerDrawn(0, 3, 9), bench -> bench.setQuota(0, 1, 1),
            bench -> bench.allocate(0, 5, true), bench -> bench.copy(0, 1), bench -> bench.merge(1, 0),
            bench -> bench.drop(1), SnapshotsTest::readItem);

    private static SampleBench afterChanges(int count) {
        SampleBench bench = new SampleBench();
        CHANGES.subList(0, count).forEach(change -> change.accept(bench));
        return bench;
    }

    /** Every change, taken back one after the other, with what was seen before each. */
    private static void undo() {
        SampleBench none = new SampleBench();
        Check.refuses(Benches.STATE, none, "undo without changes", none::undo);
        for (int left = CHANGES.size(); left >= 0; left--) {
            SampleBench bench = afterChanges(CHANGES.size());
            Check.same("the next number after all", bench.offer(0, 1, 1, 1, 1), 501);
            Check.answers(9, "undo of offer", bench::undo);
            for (int i = CHANGES.size() - 1; i >= left; i--) {
                Check.answers(i, "undo of change " + i, bench::undo);
            }
            Check.same("the state before change " + left, Check.seen(bench), Check.seen(afterChanges(left)));
        }
        SampleBench bench = afterChanges(CHANGES.size());
        CHANGES.forEach(change -> bench.undo());
        Check.refuses(Benches.STATE, bench, "undo of no more changes", bench::undo);
        bench.define(0, 0, 1, 1, 0);
        Check.same("the next number is as it was", bench.offer(0, 1, 1, 1, 1), 0);
        undoKeepsTen();
        undoOfNumbers();
        whatIsNoChange();
    }

    private static void readItem(SampleBench bench) {
        Check.feed(bench, "0/1/1/0;500,1,1,1,1");
        bench.read(2);
    }

    private static void undoKeepsTen() {
        SampleBench bench = new SampleBench();
        bench.define(0, 0, 1, 1, 0);
        for (int i = 0; i < 14; i++) {
            bench.offer(0, i, 0, 1, 0);
        }
        for (int left = 9; left >= 6; left--) {
            Check.answers(left, "undo of the latest ten", bench::undo);
        }
        Check.answers(10, "the number after four", () -> bench.offer(0, 50, 0, 1, 0));
        for (int left = 6; left >= 0; left--) {
            Check.answers(left, "older ones are gone for good", bench::undo);
        }
        Check.refuses(Benches.STATE, bench, "undo beyond ten", bench::undo);
        Check.same("what is left", Benches.kept(bench, 0, 1), "0 1 2 3");
        for (int i = 0; i < 25; i++) {
            bench.setQuota(0, 0, i % 12);
            bench.undo();
        }
        Check.refuses(Benches.STATE, bench, "undo after 25 times one change", bench::undo);
        Check.same("the quota as it was", bench.quota(0, 0), 1);
    }

    private static void undoOfNumbers() {
        SampleBench bench = Benches.eight(0, 3);
        bench.offerDrawn(0, 1, 20);
        bench.undo();
        Check.answers(8, "the number after undo of offerDrawn", () -> bench.offer(0, 1, 1, 1, 1));
        readItem(bench);
        Check.answers(501, "the number after read", () -> bench.offer(0, 1, 1, 1, 1));
        bench.undo();
        bench.undo();
        Check.answers(9, "the number after undo of read", () -> bench.offer(0, 1, 1, 1, 1));
        bench.save();
        Check.feed(bench, "0/1");
        bench.undo();
        Check.answers(4, "the buffer stays at undo", () -> bench.feed('/'));
        Check.answers(9, "the number after undo of offer", () -> bench.offer(0, 1, 1, 1, 1));
    }

    private static void whatIsNoChange() {
        SampleBench bench = new SampleBench();
        bench.define(0, 0, 1, 1, 0);
        bench.feed('x');
        bench.read(0);
        bench.write(0);
        bench.save();
        bench.summary(0, 5);
        Check.refuses(Benches.STATE, bench, "merge with nothing", () -> bench.merge(0, 1));
        Check.refuses(Benches.ARITHMETIC, bench, "allocate nothing", () -> bench.allocate(0, 1, true));
        Check.answers(0, "undo of the one change", bench::undo);
        Check.refuses(Benches.STATE, bench, "undo of no change", bench::undo);
    }

    private static void save() {
        SampleBench bench = new SampleBench();
        Check.answers(0, "save of nothing", bench::save);
        bench.define(1, 0, 1, 1, 0);
        bench.define(3, 0, 1, 1, 0);
        Check.answers(2, "save of two", bench::save);
        bench.define(0, 0, 1, 1, 0);
        bench.define(2, 0, 1, 1, 0);
        Check.answers(4, "save of four", bench::save);
        bench.drop(0);
        Check.answers(3, "save in place of it", bench::save);
        bench.define(0, 0, 1, 1, 0);
        Check.answers(3, "restore of the latest one", bench::restore);
        Check.refuses(Benches.STATE, bench, "the slot that was empty", () -> bench.summary(0, 0));
        SampleBench kept = Benches.eight(0, 3);
        kept.save();
        Check.answers(8, "save leaves the changes", kept::undo);
    }

    private static void restore() {
        SampleBench bench = Benches.eight(2, 3);
        Check.refuses(Benches.STATE, bench, "restore of nothing", bench::restore);
        bench.setQuota(0, 1, 0);
        bench.define(1, 1, 2, 3, 4);
        String seen = Check.seen(bench);
        bench.save();
        bench.drop(0);
        bench.offerDrawn(1, 1, 10);
        bench.define(2, 0, 1, 1, 0);
        Check.feed(bench, "0/1");
        Check.answers(2, "restore", bench::restore);
        Check.same("the slots", Check.seen(bench), seen);
        Check.refuses(Benches.STATE, bench, "undo after restore", bench::undo);
        Check.answers(4, "the buffer stays at restore", () -> bench.feed('/'));
        Check.answers(8, "the next number", () -> bench.offer(1, 1, 1, 1, 1));
        Check.answers(0, "undo of the one change after restore", bench::undo);
        Check.refuses(Benches.STATE, bench, "undo of no more", bench::undo);
        Check.answers(8, "the next number again", () -> bench.offer(1, 1, 1, 1, 1));
        Check.answers(2, "restore again", bench::restore);
        Check.same("the slots again", Check.seen(bench), seen);
        Check.refuses(Benches.STATE, bench, "undo after restore", bench::undo);
        SampleBench empty = new SampleBench();
        empty.save();
        empty.define(0, 0, 1, 1, 0);
        Check.answers(0, "restore of empty slots", empty::restore);
        Check.refuses(Benches.STATE, empty, "what was empty", () -> empty.summary(0, 0));
    }

    public static void main(String[] args) {
        undo();
        save();
        restore();
        Check.end();
    }
}
