import java.math.BigInteger;
import java.util.ArrayDeque;
import java.util.ArrayList;
import java.util.Arrays;
import java.util.Comparator;
import java.util.Deque;
import java.util.List;
import java.util.NoSuchElementException;
import java.util.TreeMap;
import java.util.regex.Matcher;
import java.util.regex.Pattern;
import java.util.stream.Collectors;

/** The document once more, word by word and without any care for speed: what SampleBench is compared with. */
final class Model {
    record Item(int number, int key, int stratum, int weight, int value) {
        int part(int what) {
            return new int[] {number, key, stratum, weight, value}[what];
        }
    }

    record Summary(int kind, int size, int seed, int span, List<Integer> quotas, List<Item> items) {
        Summary with(List<Item> list) {
            int from = span == 0 ? 0 : Math.max(0, list.size() - span);
            return new Summary(kind, size, seed, span, quotas, List.copyOf(list.subList(from, list.size())));
        }

        Summary withQuotas(List<Integer> list) {
            return new Summary(kind, size, seed, span, List.copyOf(list), items);
        }

        long mixOf(Item item) {
            int x = seed ^ ((kind == 3 ? item.key : item.number) * -1640531527);
            x ^= x >>> 16;
            x *= -2048144789;
            x ^= x >>> 13;
            x *= -1028477387;
            x ^= x >>> 16;
            return (x & 0x7FFFFFFFL) + 1;
        }

        // A multiple of all weights up to 99 makes a whole number of each priority.
        BigInteger priority(Item item) {
            BigInteger mix = BigInteger.valueOf(mixOf(item));
            return kind == 1 ? mix.multiply(COMMON).divide(BigInteger.valueOf(item.weight)) : mix;
        }

        List<Item> candidates() {
            return items.stream()
                    .filter(x -> kind != 3 || items.stream().noneMatch(y -> y.key == x.key && y.number < x.number))
                    .sorted(Comparator.comparing(this::priority).thenComparing(Item::number))
                    .collect(Collectors.toList());
        }

        List<Item> candidatesOf(int stratum) {
            return candidates().stream().filter(x -> x.stratum == stratum).collect(Collectors.toList());
        }

        List<Item> sample() {
            if (kind != 2) {
                return first(candidates(), size);
            }
            List<Item> sample = new ArrayList<>();
            for (int stratum = 0; stratum < 4; stratum++) {
                sample.addAll(first(candidatesOf(stratum), quotas.get(stratum)));
            }
            return sample;
        }

        List<Item> rivals(Item item) {
            return kind == 2 ? candidatesOf(item.stratum) : candidates();
        }

        int limit(Item item) {
            return kind == 2 ? quotas.get(item.stratum) : size;
        }

        boolean complete() {
            return sample().size() == candidates().size();
        }

        long differentKeys() {
            return items.stream().map(Item::key).distinct().count();
        }

        String text() {
            StringBuilder text = new StringBuilder(kind + "/" + size + "/" + seed + "/" + span);
            for (Item x : items) {
                text.append(";" + x.number + "," + x.key + "," + x.stratum + "," + x.weight + "," + x.value);
            }
            return text.toString();
        }
    }

    private record State(List<Summary> slots, int next) {
    }

    private static final BigInteger WHOLE = BigInteger.ONE.shiftLeft(31);
    private static final BigInteger COMMON = common();

    private final Summary[] slots = new Summary[4];
    private int next = 0;
    private final Deque<State> changes = new ArrayDeque<>();
    private State saved = null;
    private String input = "";
    private String output = "";

    private static BigInteger common() {
        BigInteger all = BigInteger.ONE;
        for (int i = 2; i < 100; i++) {
            BigInteger weight = BigInteger.valueOf(i);
            all = all.multiply(weight).divide(all.gcd(weight));
        }
        return all;
    }

    private static <T> List<T> first(List<T> list, int most) {
        return list.subList(0, Math.min(most, list.size()));
    }

    private static BigInteger quotient(BigInteger dividend, BigInteger divisor) {
        BigInteger two = BigInteger.TWO;
        BigInteger[] parts = dividend.multiply(two).add(divisor).divideAndRemainder(divisor.multiply(two));
        return parts[1].signum() < 0 ? parts[0].subtract(BigInteger.ONE) : parts[0];
    }

    private static BigInteger big(long number) {
        return BigInteger.valueOf(number);
    }

    private static void index(boolean there) {
        if (!there) {
            throw new IndexOutOfBoundsException("model");
        }
    }

    private static void argument(boolean right) {
        if (!right) {
            throw new IllegalArgumentException("model");
        }
    }

    private static void state(boolean right) {
        if (!right) {
            throw new IllegalStateException("model");
        }
    }

    private static void element(boolean there) {
        if (!there) {
            throw new NoSuchElementException("model");
        }
    }

    private static boolean in(long number, long low, long high) {
        return low <= number && number <= high;
    }

    private void slot(int slot) {
        index(in(slot, 0, 3));
    }

    private Summary filled(int slot) {
        state(slots[slot] != null);
        return slots[slot];
    }

    private int count(int slot) {
        return slots[slot] == null ? 0 : slots[slot].items.size();
    }

    private void item(int slot, int i) {
        index(slots[slot] == null || in(i, 0, count(slot) - 1));
    }

    private void change() {
        changes.addLast(new State(Arrays.asList(slots.clone()), next));
        if (changes.size() > 10) {
            changes.removeFirst();
        }
    }

    int define(int slot, int kind, int size, int seed, int span) {
        slot(slot);
        argument(in(kind, 0, 3) && in(size, 1, 12) && in(span, 0, 40));
        int before = count(slot);
        change();
        slots[slot] = new Summary(kind, size, seed, span, List.of(size, size, size, size), List.of());
        return before;
    }

    int drop(int slot) {
        slot(slot);
        int before = count(slot);
        change();
        slots[slot] = null;
        return before;
    }

    private void append(int slot, Item item) {
        List<Item> list = new ArrayList<>(slots[slot].items);
        list.add(item);
        slots[slot] = slots[slot].with(list);
    }

    int offer(int slot, int key, int stratum, int weight, int value) {
        slot(slot);
        argument(in(key, 0, 99) && in(stratum, 0, 3) && in(weight, 1, 99) && in(value, -999, 999));
        state(filled(slot).span != 0 || count(slot) < 60);
        change();
        append(slot, new Item(next, key, stratum, weight, value));
        return next++;
    }

    int offerDrawn(int slot, int start, int count) {
        slot(slot);
        argument(in(count, 0, 60));
        state(filled(slot).span != 0 || count(slot) + count <= 60);
        change();
        int s = start;
        for (int k = 0; k < count; k++) {
            s = s * 1103515245 + 12345;
            int r = s >>> 8;
            append(slot, new Item(next++, r % 100, (r / 100) % 4, (r / 400) % 99 + 1, (r % 1999) - 999));
        }
        return count(slot);
    }

    int summary(int slot, int what) {
        slot(slot);
        argument(in(what, 0, 7));
        Summary s = filled(slot);
        int complete = s.complete() ? 1 : 0;
        return new int[] {s.kind, s.size, s.seed, s.span, s.items.size(), s.sample().size(), complete,
            (int) s.differentKeys()}[what];
    }

    int setQuota(int slot, int stratum, int quota) {
        slot(slot);
        index(in(stratum, 0, 3));
        argument(in(quota, 0, 12));
        Summary s = filled(slot);
        change();
        List<Integer> quotas = new ArrayList<>(s.quotas);
        int before = quotas.set(stratum, quota);
        slots[slot] = s.withQuotas(quotas);
        return before;
    }

    int allocate(int slot, int total, boolean byWeight) {
        slot(slot);
        argument(in(total, 0, 12));
        Summary s = filled(slot);
        if (s.items.isEmpty()) {
            throw new ArithmeticException("model");
        }
        change();
        int[] amounts = new int[4];
        s.items.forEach(x -> amounts[x.stratum] += byWeight ? x.weight : 1);
        int sum = Arrays.stream(amounts).sum();
        List<Integer> quotas = new ArrayList<>();
        List<Integer> strata = new ArrayList<>();
        int left = total;
        for (int stratum = 0; stratum < 4; stratum++) {
            quotas.add(total * amounts[stratum] / sum);
            strata.add(stratum);
            left -= quotas.get(stratum);
        }
        strata.sort(Comparator.comparing(stratum -> -(total * amounts[stratum] % sum)));
        for (int stratum : strata.subList(0, left)) {
            quotas.set(stratum, quotas.get(stratum) + 1);
        }
        slots[slot] = s.withQuotas(quotas);
        return quotas.get(0);
    }

    int quota(int slot, int stratum) {
        slot(slot);
        index(in(stratum, 0, 3));
        return filled(slot).quotas.get(stratum);
    }

    int merge(int from, int to) {
        slot(from);
        slot(to);
        Summary a = filled(from);
        Summary b = filled(to);
        TreeMap<Integer, Item> all = new TreeMap<>();
        a.items.forEach(x -> all.put(x.number, x));
        b.items.forEach(x -> all.put(x.number, x));
        boolean alike = a.kind == b.kind && a.size == b.size && a.seed == b.seed;
        if (!alike || b.span == 0 && all.size() > 60) {
            throw new UnsupportedOperationException("model");
        }
        change();
        slots[to] = b.with(new ArrayList<>(all.values()));
        return count(to);
    }

    int copy(int from, int to) {
        slot(from);
        slot(to);
        Summary s = filled(from);
        change();
        slots[to] = s;
        return count(to);
    }

    int kept(int slot, int i, int what) {
        slot(slot);
        item(slot, i);
        argument(in(what, 0, 5));
        Summary s = filled(slot);
        Item x = s.items.get(i);
        return what == 5 ? s.sample().indexOf(x) : x.part(what);
    }

    int sampled(int slot, int i, int what) {
        slot(slot);
        index(slots[slot] == null || in(i, 0, slots[slot].sample().size() - 1));
        argument(in(what, 0, 4));
        return filled(slot).sample().get(i).part(what);
    }

    long mix(int slot, int i) {
        slot(slot);
        item(slot, i);
        return filled(slot).mixOf(slots[slot].items.get(i));
    }

    int commonKey(int slot) {
        slot(slot);
        List<Item> sample = filled(slot).sample();
        element(!sample.isEmpty());
        int[] times = new int[100];
        sample.forEach(x -> times[x.key]++);
        int most = Arrays.stream(times).max().getAsInt();
        int key = 0;
        while (times[key] < most) {
            key++;
        }
        return key;
    }

    int reason(int slot, int i) {
        slot(slot);
        item(slot, i);
        Summary s = filled(slot);
        Item x = s.items.get(i);
        if (s.kind == 2 && s.limit(x) == 0) {
            return 3;
        }
        return s.sample().contains(x) ? 0 : s.candidates().contains(x) ? 2 : 1;
    }

    int needed(int slot, int i) {
        slot(slot);
        item(slot, i);
        Summary s = filled(slot);
        Item x = s.items.get(i);
        element(s.candidates().contains(x));
        return s.rivals(x).indexOf(x) + 1;
    }

    int margin(int slot, int i) {
        slot(slot);
        item(slot, i);
        Summary s = filled(slot);
        Item x = s.items.get(i);
        element(s.sample().contains(x));
        List<Item> group = new ArrayList<>(s.sample());
        group.removeIf(y -> s.kind == 2 && y.stratum != x.stratum);
        return s.limit(x) - group.indexOf(x);
    }

    int stratum(int slot, int stratum, int what) {
        slot(slot);
        index(in(stratum, 0, 3));
        argument(in(what, 0, 5));
        Summary s = filled(slot);
        List<Item> list = what % 2 == 0 ? s.items : s.sample();
        return list.stream().filter(x -> x.stratum == stratum)
                .mapToInt(x -> what < 2 ? 1 : what < 4 ? x.value : x.weight).sum();
    }

    private static BigInteger count(Summary s) {
        List<Item> sample = s.sample();
        if (s.kind != 3) {
            return big(s.items.size());
        }
        if (s.complete()) {
            return big(sample.size());
        }
        return quotient(big(sample.size()).multiply(WHOLE), big(s.mixOf(s.candidates().get(sample.size()))));
    }

    private static BigInteger number(Item x, boolean ofWeights, int low, int high) {
        return in(x.key, low, high) ? big(ofWeights ? x.weight : x.value) : BigInteger.ZERO;
    }

    private static BigInteger total(List<Item> list, boolean ofWeights, int low, int high) {
        return list.stream().map(x -> number(x, ofWeights, low, high)).reduce(BigInteger.ZERO, BigInteger::add);
    }

    private static long estimated(Summary s, boolean ofWeights, int low, int high) {
        List<Item> sample = s.sample();
        if (sample.isEmpty()) {
            return 0;
        }
        if (s.kind == 1) {
            return sample.stream().map(x -> part(s, x, number(x, ofWeights, low, high)))
                    .reduce(BigInteger.ZERO, BigInteger::add).longValueExact();
        }
        if (s.kind == 2) {
            BigInteger all = BigInteger.ZERO;
            for (int stratum = 0; stratum < 4; stratum++) {
                int which = stratum;
                List<Item> there = sample.stream().filter(x -> x.stratum == which).collect(Collectors.toList());
                if (!there.isEmpty()) {
                    BigInteger times = big(s.candidatesOf(stratum).size());
                    BigInteger product = total(there, ofWeights, low, high).multiply(times);
                    all = all.add(quotient(product, big(there.size())));
                }
            }
            return all.longValueExact();
        }
        return quotient(total(sample, ofWeights, low, high).multiply(count(s)), big(sample.size())).longValueExact();
    }

    private static BigInteger part(Summary s, Item x, BigInteger v) {
        if (s.complete()) {
            return v;
        }
        Item limit = s.candidates().get(s.sample().size());
        BigInteger own = big(x.weight).multiply(big(s.mixOf(limit)));
        BigInteger whole = WHOLE.multiply(big(limit.weight));
        return own.compareTo(whole) >= 0 ? v : quotient(v.multiply(whole), own);
    }

    long estimateKeys(int slot, int low, int high, boolean ofWeights) {
        slot(slot);
        return estimated(filled(slot), ofWeights, low, high);
    }

    long estimate(int slot, int what) {
        slot(slot);
        argument(in(what, 0, 2));
        Summary s = filled(slot);
        return what == 0 ? count(s).longValueExact() : estimated(s, what == 2, 0, 99);
    }

    long truth(int slot, int what) {
        slot(slot);
        argument(in(what, 0, 2));
        Summary s = filled(slot);
        if (what == 0) {
            return s.kind == 3 ? s.differentKeys() : s.items.size();
        }
        return total(s.kind == 3 ? s.candidates() : s.items, what == 2, 0, 99).longValueExact();
    }

    private static List<Integer> values(List<Item> list) {
        return list.stream().map(Item::value).sorted().collect(Collectors.toList());
    }

    int quantile(int slot, int permille) {
        slot(slot);
        argument(in(permille, 0, 1000));
        List<Integer> values = values(filled(slot).sample());
        element(!values.isEmpty());
        return values.get(Math.min(values.size() * permille / 1000, values.size() - 1));
    }

    double resampled(int slot, int seed, int draws) {
        slot(slot);
        argument(in(draws, 1, 1000));
        List<Item> sample = filled(slot).sample();
        element(!sample.isEmpty());
        int z = seed;
        long sum = 0;
        for (int k = 0; k < draws; k++) {
            z = z * 1103515245 + 12345;
            sum += sample.get((z >>> 8) % sample.size()).value;
        }
        return (double) sum / draws;
    }

    float distance(int one, int other) {
        slot(one);
        slot(other);
        state(slots[one] != null && slots[other] != null);
        List<Integer> a = values(slots[one].sample());
        List<Integer> b = values(slots[other].sample());
        element(!a.isEmpty() && !b.isEmpty());
        float greatest = 0;
        for (int x = -999; x <= 999; x++) {
            int most = x;
            float share = (float) a.stream().filter(v -> v <= most).count() / (float) a.size();
            float otherShare = (float) b.stream().filter(v -> v <= most).count() / (float) b.size();
            greatest = Math.max(greatest, Math.abs(share - otherShare));
        }
        return greatest;
    }

    int common(int one, int other) {
        slot(one);
        slot(other);
        state(slots[one] != null && slots[other] != null);
        List<Integer> numbers = slots[other].sample().stream().map(Item::number).collect(Collectors.toList());
        return (int) slots[one].sample().stream().filter(x -> numbers.contains(x.number)).count();
    }

    int feed(char letter) {
        state(input.length() < 120);
        input += letter;
        return input.length();
    }

    private static final String INT = "(-?[0-9]{1,10})";
    private static final Pattern HEAD = Pattern.compile(INT + "/" + INT + "/" + INT + "/" + INT);
    private static final Pattern ITEM = Pattern.compile(";" + INT + "," + INT + "," + INT + "," + INT + "," + INT);
    private static final Pattern WHOLE_TEXT = Pattern.compile(HEAD.pattern() + "(" + ITEM.pattern() + ")*");

    // A start of a text that can be continued is one for which some ending makes a whole text of it.
    private static boolean continues(String start) {
        Matcher matcher = WHOLE_TEXT.matcher(start);
        return matcher.matches() || matcher.hitEnd();
    }

    static int errorOf(String text) {
        for (int length = 1; length <= text.length(); length++) {
            if (!continues(text.substring(0, length))) {
                return length - 1;
            }
        }
        return WHOLE_TEXT.matcher(text).matches() ? -1 : text.length();
    }

    int read(int slot) {
        slot(slot);
        String text = input;
        input = "";
        int error = errorOf(text);
        if (error >= 0) {
            return -100 - error;
        }
        Matcher head = HEAD.matcher(text);
        head.lookingAt();
        long[] h = numbers(head, 4);
        argument(in(h[0], 0, 3) && in(h[1], 1, 12) && h[2] == (int) h[2] && in(h[3], 0, 40));
        List<Item> items = new ArrayList<>();
        Matcher matcher = ITEM.matcher(text.substring(head.end()));
        while (matcher.find()) {
            long[] n = numbers(matcher, 5);
            argument(in(n[0], 0, 999999) && in(n[1], 0, 99) && in(n[2], 0, 3) && in(n[3], 1, 99));
            argument(in(n[4], -999, 999) && (items.isEmpty() || items.get(items.size() - 1).number < n[0]));
            items.add(new Item((int) n[0], (int) n[1], (int) n[2], (int) n[3], (int) n[4]));
        }
        state(items.size() <= (h[3] == 0 ? 60 : h[3]));
        change();
        int size = (int) h[1];
        slots[slot] = new Summary((int) h[0], size, (int) h[2], (int) h[3], List.of(size, size, size, size),
                List.copyOf(items));
        next = items.isEmpty() ? next : Math.max(next, items.get(items.size() - 1).number + 1);
        return items.size();
    }

    private static long[] numbers(Matcher matcher, int count) {
        long[] numbers = new long[count];
        for (int i = 0; i < count; i++) {
            numbers[i] = Long.parseLong(matcher.group(i + 1));
        }
        return numbers;
    }

    int write(int slot) {
        slot(slot);
        output = filled(slot).text();
        return output.length();
    }

    char text(int i) {
        index(in(i, 0, output.length() - 1));
        return output.charAt(i);
    }

    int undo() {
        state(!changes.isEmpty());
        become(changes.removeLast());
        return changes.size();
    }

    private void become(State before) {
        for (int i = 0; i < 4; i++) {
            slots[i] = before.slots.get(i);
        }
        next = before.next;
    }

    private int filledSlots() {
        return (int) Arrays.stream(slots).filter(s -> s != null).count();
    }

    int save() {
        saved = new State(Arrays.asList(slots.clone()), next);
        return filledSlots();
    }

    int restore() {
        state(saved != null);
        become(saved);
        changes.clear();
        return filledSlots();
    }
}
