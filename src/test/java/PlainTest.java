/** A first run through the class. */
public final class PlainTest {
    public static void main(String[] args) {
        SampleBench bench = new SampleBench();
        Check.answers(0, "define", () -> bench.define(0, 0, 3, 7, 0));
        Check.answers(0, "offer", () -> bench.offer(0, 5, 0, 10, 100));
        Check.refuses(IndexOutOfBoundsException.class, bench, "drop(4)", () -> bench.drop(4));
        Check.end();
    }
}
