import java.util.ArrayList;
import java.util.List;

/** Counts answers that are not the ones that are due. */
final class Check {
    /** A call of the bench, whose answer is boxed. */
    interface Call {
        Object answer();
    }

    private static int looked;
    private static int wrong;
    private static String about = "";

    private Check() {
    }

    /** What the next answers are about, which is told with each wrong one. */
    static void about(String what) {
        about = what.isEmpty() ? "" : what + ": ";
    }

    static int looked() {
        return looked;
    }

    static void same(String what, Object got, Object due) {
        looked++;
        if (!plain(got).equals(plain(due))) {
            wrong++;
            System.out.println(about + what + ": answered " + plain(got) + ", due is " + plain(due));
        }
    }

    static void answers(Object due, String what, Call call) {
        same(what, outcome(call), due);
    }

    /**
     * The call throws just this exception by a throw statement, and the numbers of kept items stay; Bounds.refused
     * looks at all of the state, but takes many benches for it.
     */
    static void refuses(Class<? extends RuntimeException> due, SampleBench bench, String what, Call call) {
        String before = counts(bench);
        same(what, outcome(call), due.getSimpleName());
        same("the numbers of items after " + what, counts(bench), before);
    }

    private static String counts(SampleBench bench) {
        StringBuilder row = new StringBuilder();
        for (int slot = 0; slot < 4; slot++) {
            int at = slot;
            row.append(outcome(() -> bench.summary(at, 4))).append(' ');
        }
        return row.toString();
    }

    /** The answer as a text, or the name of the exception; one of the machine's own is told with its message. */
    static Object outcome(Call call) {
        try {
            return call.answer();
        } catch (RuntimeException e) {
            return isOfMachine(e) ? "the machine threw " + e : e.getClass().getSimpleName();
        }
    }

    // The class itself throws only these five and only with messages of its own, which hold none of these texts.
    private static boolean isOfMachine(RuntimeException e) {
        String message = e.getMessage();
        return message == null || message.contains("out of bounds") || message.contains("/ by zero")
                || message.contains("annot ") || message.contains("arraycopy") || message.matches("-?\\d+");
    }

    /** Everything that the methods tell without a change: slots with their quotas, items and samples, and the text. */
    static String seen(SampleBench bench) {
        List<Object> all = new ArrayList<>();
        for (int slot = 0; slot < 4; slot++) {
            int at = slot;
            for (int what = 0; what < 8; what++) {
                int which = what;
                all.add(outcome(() -> bench.summary(at, which)));
            }
            for (int stratum = 0; stratum < 4; stratum++) {
                int which = stratum;
                all.add(outcome(() -> bench.quota(at, which)));
            }
            Object items = outcome(() -> bench.summary(at, 4));
            for (int i = 0; items instanceof Integer && i < (Integer) items; i++) {
                for (int what = 0; what < 6; what++) {
                    all.add(bench.kept(at, i, what));
                }
            }
        }
        all.add(textOf(bench));
        return all.toString();
    }

    static String textOf(SampleBench bench) {
        StringBuilder text = new StringBuilder();
        for (int i = 0; i < 5000; i++) {
            try {
                text.append(bench.text(i));
            } catch (IndexOutOfBoundsException e) {
                return text.toString();
            }
        }
        return text.toString();
    }

    static void feed(SampleBench bench, String text) {
        for (int i = 0; i < text.length(); i++) {
            bench.feed(text.charAt(i));
        }
    }

    private static String plain(Object answer) {
        return String.valueOf(answer);
    }

    static void end() {
        System.out.println(looked + " answers looked at, " + wrong + " not as due");
        if (wrong != 0) {
            System.exit(1);
        }
    }
}
