import java.lang.reflect.InvocationTargetException;
import java.lang.reflect.Method;
import java.util.ArrayList;
import java.util.Arrays;
import java.util.HashMap;
import java.util.List;
import java.util.Map;

/** Long runs of drawn calls, each answered by the class and by the model of the document. */
public final class ModelTest {
    private static final int RUNS = 2000;
    private static final int MOST_CALLS = 512;
    private static final int[] SEEDS = {7, -5, 123456789, Integer.MIN_VALUE, Integer.MAX_VALUE, 0};
    private static final String[] CHANGES = {"define", "drop", "offer", "offer", "offer", "offerDrawn", "offerDrawn",
        "setQuota", "setQuota", "allocate", "allocate", "merge", "merge", "copy", "undo", "save", "restore"};
    private static final String[] QUESTIONS = {"summary", "quota", "kept", "sampled", "mix", "commonKey", "reason",
        "needed", "margin", "stratum", "estimateKeys", "estimate", "truth", "quantile", "resampled", "distance",
        "common", "write", "text"};

    private final Map<String, Method> ofBench = methodsOf(SampleBench.class);
    private final Map<String, Method> ofModel = methodsOf(Model.class);
    private final SampleBench bench = new SampleBench();
    private final Model model = new Model();
    private final List<String> calls = new ArrayList<>();
    private final int run;
    private final int usedSlots;
    private final boolean wild;
    private final boolean alike;
    private final boolean texts;
    private long dice;

    private ModelTest(int run) {
        this.run = run;
        dice = run * 7919L + 13;
        usedSlots = 1 + draw(4);
        wild = draw(6) == 0;
        alike = draw(2) == 0;
        texts = draw(5) == 0;
    }

    private static Map<String, Method> methodsOf(Class<?> type) {
        Map<String, Method> all = new HashMap<>();
        for (Method method : type.getDeclaredMethods()) {
            if (!java.lang.reflect.Modifier.isPrivate(method.getModifiers())) {
                all.put(method.getName(), method);
            }
        }
        return all;
    }

    private int draw(int bound) {
        dice = dice * 6364136223846793005L + 1442695040888963407L;
        return (int) ((dice >>> 33) % bound);
    }

    private int between(int low, int high) {
        if (draw(wild ? 8 : 60) == 0) {
            int[] edges = {low - 1, high + 1, Integer.MIN_VALUE, Integer.MAX_VALUE, -1, low, high};
            return edges[draw(edges.length)];
        }
        return low + draw(high - low + 1);
    }

    private int slot() {
        return draw(40) == 0 ? between(-1, 4) : draw(usedSlots);
    }

    private boolean ask(String name, Object... arguments) {
        if (calls.size() >= MOST_CALLS) {
            return true;
        }
        Object got = answer(ofBench.get(name), bench, arguments);
        Object due = answer(ofModel.get(name), model, arguments);
        String call = name + Arrays.toString(arguments);
        calls.add(call + " -> " + got);
        Check.same("run " + run + ", call " + calls.size() + ", " + call, got, due);
        boolean same = got.equals(due);
        if (!same) {
            System.out.println("  after " + calls);
        }
        return same;
    }

    private static Object answer(Method method, Object target, Object[] arguments) {
        return Check.outcome(() -> {
            try {
                return method.invoke(target, arguments);
            } catch (InvocationTargetException e) {
                if (e.getCause() instanceof RuntimeException) {
                    throw (RuntimeException) e.getCause();
                }
                throw new IllegalStateException("thrown: " + e.getCause());
            } catch (IllegalAccessException e) {
                throw new IllegalStateException("no access");
            }
        });
    }

    private boolean step() {
        int chance = draw(100);
        if (texts && chance < 10) {
            return feedText() && ask("read", slot());
        }
        if (chance < 13) {
            int slot = slot();
            return numberOf(slot, 4) == 0 && draw(6) > 0 || askAll(slot);
        }
        if (texts && chance < 18) {
            return ask("feed", (char) draw(200)) && (draw(3) > 0 || ask("read", slot()));
        }
        return chance < 55 ? change(CHANGES[draw(CHANGES.length)]) : question(QUESTIONS[draw(QUESTIONS.length)]);
    }

    private boolean change(String name) {
        switch (name) {
            case "define":
                return ask(name, slot(), alike ? run % 4 : between(0, 3), alike ? 3 + run % 5 : between(1, 12),
                        alike ? run : SEEDS[draw(SEEDS.length)], draw(2) == 0 ? 0 : between(0, 40));
            case "drop":
                return draw(8) > 0 || ask(name, slot());
            case "offer":
                return ask(name, slot(), between(0, draw(3) == 0 ? 99 : 9), between(0, 3), between(1, 99),
                        draw(3) == 0 ? between(-999, 999) : between(-3, 3));
            case "offerDrawn":
                return ask(name, slot(), between(-1000, 1000), draw(4) == 0 ? between(0, 60) : between(0, 20));
            case "setQuota":
                return ask(name, slot(), between(0, 3), draw(4) == 0 ? 0 : between(0, 12));
            case "undo":
                return draw(3) > 0 || ask(name);
            case "allocate":
                return ask(name, slot(), between(0, 12), draw(2) == 0);
            case "merge":
            case "copy":
                return ask(name, slot(), slot());
            case "restore":
                return draw(12) > 0 || ask(name);
            default:
                return ask(name);
        }
    }

    private boolean question(String name) {
        int slot = slot();
        switch (name) {
            case "summary":
                return ask(name, slot, between(0, 7));
            case "quota":
                return ask(name, slot, between(0, 3));
            case "kept":
                return ask(name, slot, index(slot), between(0, 5));
            case "sampled":
                return ask(name, slot, place(slot), between(0, 4));
            case "mix":
            case "reason":
            case "needed":
            case "margin":
                return ask(name, slot, index(slot));
            case "stratum":
                return ask(name, slot, between(0, 3), between(0, 5));
            case "estimateKeys":
                return ask(name, slot, between(-5, 60), between(20, 105), draw(2) == 0);
            case "estimate":
            case "truth":
                return ask(name, slot, between(0, 2));
            case "quantile":
                return ask(name, slot, between(0, 1000));
            case "resampled":
                return ask(name, slot, between(-1000, 1000), between(1, draw(9) == 0 ? 1000 : 20));
            case "distance":
            case "common":
                return ask(name, slot, slot());
            case "text":
                return ask(name, between(0, draw(2) == 0 ? 1300 : 20));
            default:
                return ask(name, slot);
        }
    }

    private int index(int slot) {
        return between(0, Math.max(0, numberOf(slot, 4) - 1));
    }

    private int place(int slot) {
        return between(0, Math.max(0, numberOf(slot, 5) - 1));
    }

    private int numberOf(int slot, int what) {
        Object number = Check.outcome(() -> model.summary(slot, what));
        return number instanceof Integer ? (Integer) number : 0;
    }

    private boolean askAll(int slot) {
        boolean same = true;
        for (int what = 0; same && what < 8; what++) {
            same = ask("summary", slot, what) && (what > 2 || ask("estimate", slot, what) && ask("truth", slot, what));
        }
        for (int i = 0; same && i < 5; i++) {
            int k = index(slot);
            same = ask("reason", slot, k) && ask("needed", slot, k) && ask("margin", slot, k) && ask("mix", slot, k)
                    && ask("sampled", slot, place(slot), draw(5)) && ask("kept", slot, k, draw(6));
        }
        return same;
    }

    private boolean feedText() {
        StringBuilder text = new StringBuilder();
        text.append(number(0, 3)).append('/').append(number(1, 12)).append('/');
        text.append(draw(3) == 0 ? String.valueOf(SEEDS[draw(SEEDS.length)]) : number(-50, 50));
        text.append('/').append(draw(2) == 0 ? "0" : number(0, 5));
        int latest = draw(300);
        for (int items = draw(7); items > 0; items--) {
            text.append(';').append(latest).append(',').append(number(0, 99)).append(',').append(number(0, 3));
            text.append(',').append(number(1, 99)).append(',').append(number(-999, 999));
            latest += draw(30) == 0 ? 0 : draw(30) == 0 ? 999990 : 1 + draw(9);
        }
        for (int faults = draw(3) == 0 ? 1 + draw(2) : 0; faults > 0; faults--) {
            String signs = "0123456789-/;, x";
            int at = draw(text.length());
            int end = Math.min(text.length(), at + draw(2));
            text.replace(at, end, draw(2) == 0 ? "" : String.valueOf(signs.charAt(draw(signs.length()))));
        }
        if (draw(10) == 0) {
            text.setLength(draw(text.length() + 1));
        }
        boolean same = true;
        for (int i = 0; same && i < text.length() && i < 121; i++) {
            same = ask("feed", text.charAt(i));
        }
        return same;
    }

    private String number(int low, int high) {
        String digits = String.valueOf(between(low, high));
        boolean negative = digits.startsWith("-");
        String plain = negative ? digits.substring(1) : digits;
        int chance = draw(40);
        if (chance < 3) {
            plain = "0".repeat(chance == 0 ? 11 - Math.min(plain.length(), 10) : draw(4)) + plain;
        }
        return (negative || plain.equals("0") && chance > 30 ? "-" : "") + plain;
    }

    private void look() {
        boolean same = true;
        for (int slot = 0; same && slot < usedSlots; slot++) {
            same = draw(5) == 0 || change("define") && ask("offerDrawn", slot, run * 31 + slot, between(0, 40));
        }
        for (int k = 0; same && k < 2 * MOST_CALLS && calls.size() < MOST_CALLS - 60; k++) {
            same = step();
        }
        for (int k = 0; same && k < 11; k++) {
            same = ask("offer", 0, 1, 1, 1, 1) && ask("undo") && ask("undo") && ask("summary", slot(), 4);
        }
    }

    public static void main(String[] args) {
        for (int run = 0; run < RUNS; run++) {
            new ModelTest(run).look();
        }
        Check.end();
    }
}
