import java.util.NoSuchElementException;

/**
 * A bench of sampling summaries in four slots: what is offered to a summary is kept in a list, and its sample is found
 * from priorities that come from a seed, so that the same calls always find the same sample.
 */
public final class SampleBench {
    private static final int SLOTS = 4;
    private static final int STRATA = 4;
    private static final int MOST_ITEMS = 60;
    private static final int MOST_SIZE = 12;
    private static final int MOST_SPAN = 40;
    private static final int MOST_KEY = 99;
    private static final int MOST_WEIGHT = 99;
    private static final int MOST_VALUE = 999;
    private static final int MOST_READ_NUMBER = 999999;
    private static final int MOST_DRAWS = 1000;
    private static final int MOST_CHANGES = 10;
    private static final int MOST_LETTERS = 120;
    // The longest text has a head of 19 characters and 60 items of 21 each, with numbers of seven digits.
    private static final int MOST_WRITTEN = 2048;

    private static final int UNIFORM = 0;
    private static final int WEIGHTED = 1;
    private static final int STRATIFIED = 2;
    private static final int DISTINCT = 3;

    private static final int NUMBER = 0;
    private static final int KEY = 1;
    private static final int STRATUM = 2;
    private static final int WEIGHT = 3;
    private static final int VALUE = 4;
    private static final int PARTS = 5;

    private static final int HEAD_NUMBERS = 4;
    private static final int MOST_DIGITS = 10;
    private static final long WHOLE = 2147483648L;

    private final Summary[] slots;
    private final Summary[] savedSlots;
    private boolean anySaved;
    private int savedNext;
    private int next;
    private final History history;
    private final Summary draft;
    private final Sample firstSample;
    private final Sample secondSample;
    private final Letters input;
    private final Letters output;
    private final Parser parser;
    private final int[] amounts;
    private final int[] remainders;

    public SampleBench() {
        slots = new Summary[SLOTS];
        savedSlots = new Summary[SLOTS];
        for (int i = 0; i < SLOTS; i++) {
            slots[i] = new Summary();
            savedSlots[i] = new Summary();
        }
        history = new History();
        draft = new Summary();
        firstSample = new Sample();
        secondSample = new Sample();
        input = new Letters(MOST_LETTERS);
        output = new Letters(MOST_WRITTEN);
        parser = new Parser();
        amounts = new int[STRATA];
        remainders = new int[STRATA];
    }

    // ---- summaries

    public int define(int slot, int kind, int size, int seed, int span)
            throws IndexOutOfBoundsException, IllegalArgumentException {
        Summary held = slotAt(slot);
        needRange(areSettings(kind, size, span));
        int before = held.count();
        history.remember(slot, held, next);
        held.begin(kind, size, seed, span);
        return before;
    }

    public int drop(int slot) throws IndexOutOfBoundsException {
        Summary held = slotAt(slot);
        int before = held.count();
        history.remember(slot, held, next);
        held.empty();
        return before;
    }

    public int offer(int slot, int key, int stratum, int weight, int value)
            throws IndexOutOfBoundsException, IllegalArgumentException, IllegalStateException {
        Summary held = slotAt(slot);
        needRange(areParts(key, stratum, weight, value));
        needFilled(held);
        needRoom(held, 1);
        history.remember(slot, held, next);
        int number = next;
        held.push(number, key, stratum, weight, value);
        next = number + 1;
        return number;
    }

    public int offerDrawn(int slot, int start, int count)
            throws IndexOutOfBoundsException, IllegalArgumentException, IllegalStateException {
        Summary held = slotAt(slot);
        needRange(isWithin(count, 0, MOST_ITEMS));
        needFilled(held);
        needRoom(held, count);
        history.remember(slot, held, next);
        int drawn = start;
        for (int k = 0; k < count; k++) {
            drawn = nextDrawn(drawn);
            int r = drawn >>> 8;
            held.push(next, r % 100, r / 100 % 4, r / 400 % 99 + 1, r % 1999 - 999);
            next++;
        }
        return held.count();
    }

    public int summary(int slot, int what)
            throws IndexOutOfBoundsException, IllegalArgumentException, IllegalStateException {
        Summary held = slotAt(slot);
        needRange(isWithin(what, 0, 7));
        needFilled(held);
        switch (what) {
            case 0:
                return held.kind;
            case 1:
                return held.size;
            case 2:
                return held.seed;
            case 3:
                return held.span;
            case 4:
                return held.count();
            case 5:
                return sampleOf(held).size();
            case 6:
                return sampleOf(held).isComplete() ? 1 : 0;
            default:
                return held.differentKeys();
        }
    }

    public int setQuota(int slot, int stratum, int quota)
            throws IndexOutOfBoundsException, IllegalArgumentException, IllegalStateException {
        Summary held = slotAt(slot);
        needStratum(stratum);
        needRange(isWithin(quota, 0, MOST_SIZE));
        needFilled(held);
        int before = held.quotaOf(stratum);
        history.remember(slot, held, next);
        held.putQuota(stratum, quota);
        return before;
    }

    public int allocate(int slot, int total, boolean byWeight)
            throws IndexOutOfBoundsException, IllegalArgumentException, IllegalStateException, ArithmeticException {
        Summary held = slotAt(slot);
        needRange(isWithin(total, 0, MOST_SIZE));
        needFilled(held);
        int sum = findAmounts(held, byWeight);
        if (sum <= 0) {
            throw new ArithmeticException("the summary keeps no items");
        }
        history.remember(slot, held, next);
        int left = total;
        for (int stratum = 0; stratum < STRATA; stratum++) {
            int product = total * amounts[stratum];
            held.putQuota(stratum, product / sum);
            remainders[stratum] = product % sum;
            left -= product / sum;
        }
        for (int k = 0; k < left; k++) {
            int stratum = takeGreatestRemainder();
            held.putQuota(stratum, held.quotaOf(stratum) + 1);
        }
        return held.quotaOf(0);
    }

    public int quota(int slot, int stratum) throws IndexOutOfBoundsException, IllegalStateException {
        Summary held = slotAt(slot);
        needStratum(stratum);
        needFilled(held);
        return held.quotaOf(stratum);
    }

    public int merge(int from, int to)
            throws IndexOutOfBoundsException, IllegalStateException, UnsupportedOperationException {
        Summary giver = slotAt(from);
        Summary taker = slotAt(to);
        needFilled(giver);
        needFilled(taker);
        if (!taker.isLike(giver)) {
            throw new UnsupportedOperationException("the summaries differ in kind, size or seed");
        }
        if (!taker.hasRoomFor(taker.missingOf(giver))) {
            throw new UnsupportedOperationException("the summary would keep too many items");
        }
        draft.join(giver, taker);
        history.remember(to, taker, next);
        taker.become(draft);
        return taker.count();
    }

    public int copy(int from, int to) throws IndexOutOfBoundsException, IllegalStateException {
        Summary source = slotAt(from);
        Summary target = slotAt(to);
        needFilled(source);
        history.remember(to, target, next);
        target.become(source);
        return target.count();
    }

    // ---- items and samples

    public int kept(int slot, int i, int what)
            throws IndexOutOfBoundsException, IllegalArgumentException, IllegalStateException {
        Summary held = slotAt(slot);
        needItem(held, i);
        needRange(isWithin(what, 0, PARTS));
        needFilled(held);
        return what < PARTS ? held.partAt(i, what) : sampleOf(held).placeOf(i);
    }

    public int sampled(int slot, int i, int what)
            throws IndexOutOfBoundsException, IllegalArgumentException, IllegalStateException {
        Summary held = slotAt(slot);
        Sample sample = sampleOf(held);
        if (held.isFilled() && !isWithin(i, 0, sample.size() - 1)) {
            throw new IndexOutOfBoundsException("no such item in the sample");
        }
        needRange(isWithin(what, 0, PARTS - 1));
        needFilled(held);
        return sample.partAt(i, what);
    }

    public long mix(int slot, int i) throws IndexOutOfBoundsException, IllegalStateException {
        Summary held = slotAt(slot);
        needItem(held, i);
        needFilled(held);
        return held.mixAt(i);
    }

    public int commonKey(int slot) throws IndexOutOfBoundsException, IllegalStateException, NoSuchElementException {
        Sample sample = neededSample(slotAt(slot));
        int best = MOST_KEY;
        int bestTimes = 0;
        for (int k = 0; k < sample.size(); k++) {
            int key = sample.partAt(k, KEY);
            int times = sample.timesOfKey(key);
            if (times > bestTimes || times == bestTimes && key < best) {
                best = key;
                bestTimes = times;
            }
        }
        return best;
    }

    public int reason(int slot, int i) throws IndexOutOfBoundsException, IllegalStateException {
        Summary held = slotAt(slot);
        needItem(held, i);
        needFilled(held);
        Sample sample = sampleOf(held);
        if (sample.placeOf(i) >= 0) {
            return 0;
        }
        if (sample.rankOf(i) < 0) {
            return 1;
        }
        return held.kind == STRATIFIED && held.limitFor(i) == 0 ? 3 : 2;
    }

    public int needed(int slot, int i)
            throws IndexOutOfBoundsException, IllegalStateException, NoSuchElementException {
        Summary held = slotAt(slot);
        needItem(held, i);
        needFilled(held);
        int rank = sampleOf(held).rankOf(i);
        if (rank < 0) {
            throw new NoSuchElementException("the item is no candidate");
        }
        return rank + 1;
    }

    public int margin(int slot, int i)
            throws IndexOutOfBoundsException, IllegalStateException, NoSuchElementException {
        Summary held = slotAt(slot);
        needItem(held, i);
        needFilled(held);
        Sample sample = sampleOf(held);
        if (sample.placeOf(i) < 0) {
            throw new NoSuchElementException("the item is not in the sample");
        }
        return held.limitFor(i) - sample.rankOf(i);
    }

    public int stratum(int slot, int stratum, int what)
            throws IndexOutOfBoundsException, IllegalArgumentException, IllegalStateException {
        Summary held = slotAt(slot);
        needStratum(stratum);
        needRange(isWithin(what, 0, 5));
        needFilled(held);
        Sample sample = sampleOf(held);
        boolean ofSample = what % 2 == 1;
        int total = 0;
        for (int i = 0; i < held.count(); i++) {
            if (held.partAt(i, STRATUM) == stratum && (!ofSample || sample.placeOf(i) >= 0)) {
                total += what < 2 ? 1 : held.partAt(i, what < 4 ? VALUE : WEIGHT);
            }
        }
        return total;
    }

    // ---- estimates

    public long estimateKeys(int slot, int low, int high, boolean ofWeights)
            throws IndexOutOfBoundsException, IllegalStateException {
        Summary held = slotAt(slot);
        needFilled(held);
        return sampleOf(held).estimatedTotal(ofWeights ? WEIGHT : VALUE, low, high);
    }

    public long estimate(int slot, int what)
            throws IndexOutOfBoundsException, IllegalArgumentException, IllegalStateException {
        Summary held = slotAt(slot);
        needRange(isWithin(what, 0, 2));
        needFilled(held);
        Sample sample = sampleOf(held);
        if (what == 0) {
            return sample.estimatedCount();
        }
        return sample.estimatedTotal(what == 1 ? VALUE : WEIGHT, 0, MOST_KEY);
    }

    public long truth(int slot, int what)
            throws IndexOutOfBoundsException, IllegalArgumentException, IllegalStateException {
        Summary held = slotAt(slot);
        needRange(isWithin(what, 0, 2));
        needFilled(held);
        Sample sample = sampleOf(held);
        long total = 0;
        for (int i = 0; i < held.count(); i++) {
            if (sample.rankOf(i) >= 0) {
                total += what == 0 ? 1 : held.partAt(i, what == 1 ? VALUE : WEIGHT);
            }
        }
        return total;
    }

    public int quantile(int slot, int permille)
            throws IndexOutOfBoundsException, IllegalArgumentException, IllegalStateException, NoSuchElementException {
        Summary held = slotAt(slot);
        needRange(isWithin(permille, 0, 1000));
        Sample sample = neededSample(held);
        int index = sample.size() * permille / 1000;
        return sample.sortedValue(Math.min(index, sample.size() - 1));
    }

    public double resampled(int slot, int seed, int draws)
            throws IndexOutOfBoundsException, IllegalArgumentException, IllegalStateException, NoSuchElementException {
        Summary held = slotAt(slot);
        needRange(isWithin(draws, 1, MOST_DRAWS));
        Sample sample = neededSample(held);
        int size = Math.max(1, sample.size());
        int drawn = seed;
        double sum = 0;
        for (int k = 0; k < draws; k++) {
            drawn = nextDrawn(drawn);
            sum += sample.partAt((drawn >>> 8) % size, VALUE);
        }
        return sum / (double) draws;
    }

    public float distance(int one, int other)
            throws IndexOutOfBoundsException, IllegalStateException, NoSuchElementException {
        findBothSamples(one, other);
        needItems(firstSample);
        needItems(secondSample);
        float overFirst = greatestGap(firstSample);
        float overSecond = greatestGap(secondSample);
        return overFirst >= overSecond ? overFirst : overSecond;
    }

    public int common(int one, int other) throws IndexOutOfBoundsException, IllegalStateException {
        findBothSamples(one, other);
        int both = 0;
        for (int k = 0; k < firstSample.size(); k++) {
            if (secondSample.hasNumber(firstSample.partAt(k, NUMBER))) {
                both++;
            }
        }
        return both;
    }

    // ---- texts and snapshots

    public int feed(char letter) throws IllegalStateException {
        if (input.isFull()) {
            throw new IllegalStateException("the buffer is full");
        }
        input.add(letter);
        return input.length();
    }

    public int read(int slot) throws IndexOutOfBoundsException, IllegalArgumentException, IllegalStateException {
        Summary held = slotAt(slot);
        int errorAt = parser.findError(input);
        input.clear();
        if (errorAt >= 0) {
            return -100 - errorAt;
        }
        needRange(parser.isInRange());
        if (!parser.fitsSpan()) {
            throw new IllegalStateException("the text has too many items");
        }
        history.remember(slot, held, next);
        parser.fill(held);
        next = Math.max(next, held.lastNumber() + 1);
        return held.count();
    }

    public int write(int slot) throws IndexOutOfBoundsException, IllegalStateException {
        Summary held = slotAt(slot);
        needFilled(held);
        output.clear();
        held.appendTo(output);
        return output.length();
    }

    public char text(int i) throws IndexOutOfBoundsException {
        if (i < 0 || i >= output.length()) {
            throw new IndexOutOfBoundsException("no such index in the text");
        }
        return output.letterAt(i);
    }

    public int undo() throws IllegalStateException {
        if (history.count() == 0) {
            throw new IllegalStateException("there is no change to take back");
        }
        history.stepBack();
        slotAt(history.slot()).become(history.held());
        next = history.next();
        return history.count();
    }

    public int save() {
        for (int i = 0; i < SLOTS; i++) {
            savedSlots[i].become(slots[i]);
        }
        savedNext = next;
        anySaved = true;
        return filledSlots();
    }

    public int restore() throws IllegalStateException {
        if (!anySaved) {
            throw new IllegalStateException("nothing was saved");
        }
        for (int i = 0; i < SLOTS; i++) {
            slots[i].become(savedSlots[i]);
        }
        next = savedNext;
        history.forget();
        return filledSlots();
    }

    // ---- what a call needs

    private Summary slotAt(int slot) {
        if (slot < 0 || slot >= SLOTS) {
            throw new IndexOutOfBoundsException("no such slot");
        }
        return slots[slot];
    }

    private static void needStratum(int stratum) {
        if (!isWithin(stratum, 0, STRATA - 1)) {
            throw new IndexOutOfBoundsException("no such stratum");
        }
    }

    // An empty slot has no summary that could lack the item: its own exception comes later.
    private static void needItem(Summary held, int i) {
        if (held.isFilled() && !isWithin(i, 0, held.count() - 1)) {
            throw new IndexOutOfBoundsException("no such item in the list");
        }
    }

    private static void needRange(boolean allWithin) {
        if (!allWithin) {
            throw new IllegalArgumentException("a number is out of range");
        }
    }

    private static void needFilled(Summary held) {
        if (!held.isFilled()) {
            throw new IllegalStateException("the slot is empty");
        }
    }

    private static void needRoom(Summary held, int more) {
        if (!held.hasRoomFor(more)) {
            throw new IllegalStateException("the summary would keep too many items");
        }
    }

    private static void needItems(Sample sample) {
        if (sample.size() == 0) {
            throw new NoSuchElementException("the sample is empty");
        }
    }

    private Sample neededSample(Summary held) {
        needFilled(held);
        Sample sample = sampleOf(held);
        needItems(sample);
        return sample;
    }

    private Sample sampleOf(Summary held) {
        firstSample.find(held);
        return firstSample;
    }

    private void findBothSamples(int one, int other) {
        Summary first = slotAt(one);
        Summary second = slotAt(other);
        needFilled(first);
        needFilled(second);
        firstSample.find(first);
        secondSample.find(second);
    }

    // ---- ranges and numbers

    private static boolean isWithin(long number, long low, long high) {
        return number >= low && number <= high;
    }

    private static boolean areSettings(long kind, long size, long span) {
        return isWithin(kind, UNIFORM, DISTINCT) && isWithin(size, 1, MOST_SIZE) && isWithin(span, 0, MOST_SPAN);
    }

    private static boolean areParts(long key, long stratum, long weight, long value) {
        return isWithin(key, 0, MOST_KEY)
                && isWithin(stratum, 0, STRATA - 1)
                && isWithin(weight, 1, MOST_WEIGHT)
                && isWithin(value, -MOST_VALUE, MOST_VALUE);
    }

    private static int nextDrawn(int drawn) {
        return drawn * 1103515245 + 12345;
    }

    private static long mixOf(int a, int b) {
        int x = a ^ (b * -1640531527);
        x = x ^ (x >>> 16);
        x = x * -2048144789;
        x = x ^ (x >>> 13);
        x = x * -1028477387;
        x = x ^ (x >>> 16);
        return (x & 2147483647) + 1L;
    }

    // Halves go to the greater integer below 0 too, as the floor of the quotient and a half.
    private static long rounded(long dividend, long divisor) {
        if (divisor <= 0) {
            return 0;
        }
        return Math.floorDiv(2 * dividend + divisor, 2 * divisor);
    }

    private int filledSlots() {
        int filled = 0;
        for (int i = 0; i < SLOTS; i++) {
            if (slots[i].isFilled()) {
                filled++;
            }
        }
        return filled;
    }

    // ---- parts of longer calls

    private int findAmounts(Summary held, boolean byWeight) {
        int sum = 0;
        for (int stratum = 0; stratum < STRATA; stratum++) {
            amounts[stratum] = 0;
            for (int i = 0; i < held.count(); i++) {
                if (held.partAt(i, STRATUM) == stratum) {
                    amounts[stratum] += byWeight ? held.partAt(i, WEIGHT) : 1;
                }
            }
            sum += amounts[stratum];
        }
        return sum;
    }

    // A taken remainder becomes -1, so that a stratum gets no second one.
    private int takeGreatestRemainder() {
        int best = 0;
        for (int stratum = 1; stratum < STRATA; stratum++) {
            if (remainders[stratum] > remainders[best]) {
                best = stratum;
            }
        }
        remainders[best] = -1;
        return best;
    }

    private float greatestGap(Sample over) {
        float greatest = 0;
        for (int k = 0; k < over.size(); k++) {
            int x = over.partAt(k, VALUE);
            float gap = firstSample.shareUpTo(x) - secondSample.shareUpTo(x);
            float width = gap < 0 ? -gap : gap;
            greatest = width > greatest ? width : greatest;
        }
        return greatest;
    }

    /** What a slot holds: a summary with its kept items in ascending order of their numbers, or nothing. */
    private static final class Summary {
        private boolean filled;
        private int kind;
        private int size;
        private int seed;
        private int span;
        private int count;
        private final int[] quotas = new int[STRATA];
        private final int[] rows = new int[MOST_ITEMS * PARTS];

        boolean isFilled() {
            return filled;
        }

        int count() {
            return count;
        }

        void empty() {
            filled = false;
            count = 0;
        }

        void begin(int newKind, int newSize, int newSeed, int newSpan) {
            filled = true;
            kind = newKind;
            size = newSize;
            seed = newSeed;
            span = newSpan;
            count = 0;
            for (int stratum = 0; stratum < STRATA; stratum++) {
                quotas[stratum] = newSize;
            }
        }

        void become(Summary source) {
            takeSettings(source);
            count = source.count;
            System.arraycopy(source.rows, 0, rows, 0, rows.length);
        }

        private void takeSettings(Summary source) {
            filled = source.filled;
            kind = source.kind;
            size = source.size;
            seed = source.seed;
            span = source.span;
            System.arraycopy(source.quotas, 0, quotas, 0, STRATA);
        }

        boolean isLike(Summary source) {
            return kind == source.kind && size == source.size && seed == source.seed;
        }

        boolean hasRoomFor(int more) {
            return span != 0 || count + more <= MOST_ITEMS;
        }

        int partAt(int i, int part) {
            if (i < 0 || i >= count || i >= MOST_ITEMS || part < 0 || part >= PARTS) {
                return 0;
            }
            return rows[i * PARTS + part];
        }

        int lastNumber() {
            return count == 0 ? -1 : partAt(count - 1, NUMBER);
        }

        void push(int number, int key, int stratum, int weight, int value) {
            if (span != 0 && count >= span) {
                removeFirst();
            }
            if (count < 0 || count >= MOST_ITEMS) {
                return;
            }
            int at = count * PARTS;
            rows[at + NUMBER] = number;
            rows[at + KEY] = key;
            rows[at + STRATUM] = stratum;
            rows[at + WEIGHT] = weight;
            rows[at + VALUE] = value;
            count++;
        }

        private void removeFirst() {
            if (count < 1 || count > MOST_ITEMS) {
                return;
            }
            System.arraycopy(rows, PARTS, rows, 0, (count - 1) * PARTS);
            count--;
        }

        private void pushFrom(Summary source, int i) {
            push(source.partAt(i, NUMBER), source.partAt(i, KEY), source.partAt(i, STRATUM),
                    source.partAt(i, WEIGHT), source.partAt(i, VALUE));
        }

        // Pushing slides the span along, so the last items of both lists are what is left.
        void join(Summary giver, Summary taker) {
            takeSettings(taker);
            count = 0;
            int given = 0;
            for (int i = 0; i < taker.count; i++) {
                int number = taker.partAt(i, NUMBER);
                for (; given < giver.count && giver.partAt(given, NUMBER) <= number; given++) {
                    if (giver.partAt(given, NUMBER) < number) {
                        pushFrom(giver, given);
                    }
                }
                pushFrom(taker, i);
            }
            for (; given < giver.count; given++) {
                pushFrom(giver, given);
            }
        }

        int missingOf(Summary giver) {
            int missing = 0;
            for (int i = 0; i < giver.count; i++) {
                if (!hasNumber(giver.partAt(i, NUMBER))) {
                    missing++;
                }
            }
            return missing;
        }

        private boolean hasNumber(int number) {
            for (int i = 0; i < count; i++) {
                if (partAt(i, NUMBER) == number) {
                    return true;
                }
            }
            return false;
        }

        int quotaOf(int stratum) {
            return stratum < 0 || stratum >= STRATA ? 0 : quotas[stratum];
        }

        void putQuota(int stratum, int newQuota) {
            if (stratum >= 0 && stratum < STRATA) {
                quotas[stratum] = newQuota;
            }
        }

        int limitFor(int i) {
            return kind == STRATIFIED ? quotaOf(partAt(i, STRATUM)) : size;
        }

        long mixAt(int i) {
            return mixOf(seed, partAt(i, kind == DISTINCT ? KEY : NUMBER));
        }

        boolean isFirstOfKey(int i) {
            int key = partAt(i, KEY);
            for (int j = 0; j < i && j < count; j++) {
                if (partAt(j, KEY) == key) {
                    return false;
                }
            }
            return true;
        }

        int differentKeys() {
            int keys = 0;
            for (int i = 0; i < count; i++) {
                if (isFirstOfKey(i)) {
                    keys++;
                }
            }
            return keys;
        }

        int countOfStratum(int stratum) {
            int items = 0;
            for (int i = 0; i < count; i++) {
                if (partAt(i, STRATUM) == stratum) {
                    items++;
                }
            }
            return items;
        }

        void appendTo(Letters letters) {
            letters.addNumber(kind);
            letters.add('/');
            letters.addNumber(size);
            letters.add('/');
            letters.addNumber(seed);
            letters.add('/');
            letters.addNumber(span);
            for (int i = 0; i < count; i++) {
                for (int part = 0; part < PARTS; part++) {
                    letters.add(part == 0 ? ';' : ',');
                    letters.addNumber(partAt(i, part));
                }
            }
        }
    }

    /** The sample of a summary, found anew for each question, in rows that are used again. */
    private static final class Sample {
        // Until the first search, the sample of no items.
        private Summary of = new Summary();
        private int candidates;
        private int size;
        private final long[] mixes = new long[MOST_ITEMS];
        // The candidates by priority, for kind 2 by stratum first.
        private final int[] order = new int[MOST_ITEMS];
        // For each kept item how many candidates, for kind 2 of its stratum, come before it; -1 for no candidate.
        private final int[] ranks = new int[MOST_ITEMS];
        private final int[] chosen = new int[MOST_ITEMS];
        private final int[] places = new int[MOST_ITEMS];
        private final int[] sorted = new int[MOST_ITEMS];

        int size() {
            return size;
        }

        boolean isComplete() {
            return size == candidates;
        }

        void find(Summary held) {
            of = held;
            candidates = 0;
            size = 0;
            int items = Math.min(held.count(), MOST_ITEMS);
            for (int i = 0; i < items; i++) {
                mixes[i] = held.mixAt(i);
                ranks[i] = -1;
                places[i] = -1;
                if (held.kind != DISTINCT || held.isFirstOfKey(i)) {
                    insert(i);
                }
            }
            choose();
        }

        // Items come in ascending order of their numbers, so an equal one stays behind those that are there.
        private void insert(int i) {
            if (candidates >= MOST_ITEMS) {
                return;
            }
            int at = candidates;
            for (; at > 0 && comesBefore(i, order[at - 1]); at--) {
                order[at] = order[at - 1];
            }
            order[at] = i;
            candidates++;
        }

        private boolean comesBefore(int i, int j) {
            int stratumOfI = of.partAt(i, STRATUM);
            int stratumOfJ = of.partAt(j, STRATUM);
            if (of.kind == STRATIFIED && stratumOfI != stratumOfJ) {
                return stratumOfI < stratumOfJ;
            }
            if (of.kind == WEIGHTED) {
                return mixAt(i) * of.partAt(j, WEIGHT) < mixAt(j) * of.partAt(i, WEIGHT);
            }
            return mixAt(i) < mixAt(j);
        }

        private void choose() {
            int rank = -1;
            for (int k = 0; k < candidates; k++) {
                int i = candidateAt(k);
                boolean opensStratum = k > 0 && of.kind == STRATIFIED
                        && of.partAt(i, STRATUM) != of.partAt(candidateAt(k - 1), STRATUM);
                rank = opensStratum ? 0 : rank + 1;
                place(i, rank);
            }
        }

        private void place(int i, int rank) {
            if (i < 0 || i >= MOST_ITEMS || size >= MOST_ITEMS) {
                return;
            }
            ranks[i] = rank;
            if (rank < of.limitFor(i)) {
                chosen[size] = i;
                places[i] = size;
                size++;
            }
        }

        private long mixAt(int i) {
            return i < 0 || i >= MOST_ITEMS ? 1 : mixes[i];
        }

        private int candidateAt(int k) {
            return k < 0 || k >= candidates || k >= MOST_ITEMS ? 0 : order[k];
        }

        private int chosenAt(int k) {
            return k < 0 || k >= size || k >= MOST_ITEMS ? -1 : chosen[k];
        }

        int partAt(int k, int part) {
            return of.partAt(chosenAt(k), part);
        }

        int rankOf(int i) {
            return i < 0 || i >= of.count() || i >= MOST_ITEMS ? -1 : ranks[i];
        }

        int placeOf(int i) {
            return i < 0 || i >= of.count() || i >= MOST_ITEMS ? -1 : places[i];
        }

        int timesOfKey(int key) {
            int times = 0;
            for (int k = 0; k < size; k++) {
                if (partAt(k, KEY) == key) {
                    times++;
                }
            }
            return times;
        }

        boolean hasNumber(int number) {
            for (int k = 0; k < size; k++) {
                if (partAt(k, NUMBER) == number) {
                    return true;
                }
            }
            return false;
        }

        int sortedValue(int index) {
            int values = Math.min(size, MOST_ITEMS);
            for (int k = 0; k < values; k++) {
                int value = partAt(k, VALUE);
                int at = k;
                for (; at > 0 && sorted[at - 1] > value; at--) {
                    sorted[at] = sorted[at - 1];
                }
                sorted[at] = value;
            }
            return index < 0 || index >= values ? 0 : sorted[index];
        }

        float shareUpTo(int x) {
            if (size <= 0) {
                return 0;
            }
            int values = 0;
            for (int k = 0; k < size; k++) {
                if (partAt(k, VALUE) <= x) {
                    values++;
                }
            }
            return (float) values / (float) size;
        }

        long estimatedCount() {
            if (of.kind != DISTINCT) {
                return of.count();
            }
            return isComplete() ? size : rounded(size * WHOLE, mixAt(candidateAt(size)));
        }

        long estimatedTotal(int part, int low, int high) {
            if (of.kind == WEIGHTED) {
                return weightedTotal(part, low, high);
            }
            if (of.kind == STRATIFIED) {
                return stratifiedTotal(part, low, high);
            }
            long total = 0;
            for (int k = 0; k < size; k++) {
                total += totalled(k, part, low, high);
            }
            return rounded(total * estimatedCount(), size);
        }

        private long stratifiedTotal(int part, int low, int high) {
            long estimated = 0;
            for (int stratum = 0; stratum < STRATA; stratum++) {
                long total = 0;
                int items = 0;
                for (int k = 0; k < size; k++) {
                    if (partAt(k, STRATUM) == stratum) {
                        total += totalled(k, part, low, high);
                        items++;
                    }
                }
                estimated += rounded(total * of.countOfStratum(stratum), items);
            }
            return estimated;
        }

        private long weightedTotal(int part, int low, int high) {
            int limit = candidateAt(size);
            long mix = mixAt(limit);
            long whole = WHOLE * of.partAt(limit, WEIGHT);
            long estimated = 0;
            for (int k = 0; k < size; k++) {
                long number = totalled(k, part, low, high);
                long own = partAt(k, WEIGHT) * mix;
                boolean counts = isComplete() || own >= whole;
                estimated += counts ? number : rounded(number * whole, own);
            }
            return estimated;
        }

        private long totalled(int k, int part, int low, int high) {
            return isWithin(partAt(k, KEY), low, high) ? partAt(k, part) : 0;
        }
    }

    /** The latest changes, each with what its slot held before it; the oldest one gives way to a new one. */
    private static final class History {
        private final Summary[] befores = new Summary[MOST_CHANGES];
        private final int[] changedSlots = new int[MOST_CHANGES];
        private final int[] nexts = new int[MOST_CHANGES];
        private int count;
        private int top;

        History() {
            for (int i = 0; i < MOST_CHANGES; i++) {
                befores[i] = new Summary();
            }
        }

        int count() {
            return count;
        }

        void forget() {
            count = 0;
        }

        void remember(int slot, Summary held, int next) {
            int at = topIndex();
            befores[at].become(held);
            changedSlots[at] = slot;
            nexts[at] = next;
            top = (at + 1) % MOST_CHANGES;
            count = Math.min(count + 1, MOST_CHANGES);
        }

        void stepBack() {
            top = (topIndex() + MOST_CHANGES - 1) % MOST_CHANGES;
            count = Math.max(count - 1, 0);
        }

        // What was stepped back over stays readable until the next change.
        int slot() {
            return changedSlots[topIndex()];
        }

        Summary held() {
            return befores[topIndex()];
        }

        int next() {
            return nexts[topIndex()];
        }

        private int topIndex() {
            return top < 0 || top >= MOST_CHANGES ? 0 : top;
        }
    }

    /** A row of characters up to a fixed length. */
    private static final class Letters {
        private final char[] cells;
        private int length;

        Letters(int most) {
            cells = new char[Math.max(most, 0)];
        }

        int length() {
            return length;
        }

        boolean isFull() {
            return length >= cells.length;
        }

        void clear() {
            length = 0;
        }

        void add(char letter) {
            if (length >= 0 && length < cells.length) {
                cells[length] = letter;
                length++;
            }
        }

        char letterAt(int i) {
            return i < 0 || i >= length || i >= cells.length ? (char) 0 : cells[i];
        }

        void addNumber(int number) {
            long left = number;
            if (left < 0) {
                add('-');
                left = -left;
            }
            long unit = 1;
            for (int digits = 1; digits < MOST_DIGITS && left >= unit * 10; digits++) {
                unit *= 10;
            }
            for (; unit > 0; unit /= 10) {
                add((char) ('0' + left / unit % 10));
            }
        }
    }

    /** Reads a summary from the input: its numbers first, which are looked at when the whole text is correct. */
    private static final class Parser {
        // Numbers of a single digit and what parts them fill the input with half as many.
        private final long[] numbers = new long[(MOST_LETTERS + 1) / 2];
        private int count;
        private int at;

        /** The error position, or -1 if the text is correct. */
        int findError(Letters source) {
            count = 0;
            at = 0;
            for (int round = 0; round <= MOST_LETTERS; round++) {
                if (!takeNumber(source)) {
                    return at;
                }
                boolean mayEnd = isLastOfPart(count - 1);
                if (at >= source.length()) {
                    return mayEnd ? -1 : at;
                }
                if (source.letterAt(at) != separatorAfter(count - 1)) {
                    return at;
                }
                at++;
            }
            return at;
        }

        private boolean takeNumber(Letters source) {
            boolean negative = at < source.length() && source.letterAt(at) == '-';
            if (negative) {
                at++;
            }
            long number = 0;
            int digits = 0;
            for (; digits < MOST_DIGITS && isDigit(source, at); digits++) {
                number = number * 10 + (source.letterAt(at) - '0');
                at++;
            }
            if (digits == 0 || count >= numbers.length) {
                return false;
            }
            numbers[count] = negative ? -number : number;
            count++;
            return true;
        }

        private static boolean isDigit(Letters source, int i) {
            return i < source.length() && isWithin(source.letterAt(i), '0', '9');
        }

        private static boolean isLastOfPart(int index) {
            return index < HEAD_NUMBERS ? index == HEAD_NUMBERS - 1 : (index - HEAD_NUMBERS) % PARTS == PARTS - 1;
        }

        private static char separatorAfter(int index) {
            if (isLastOfPart(index)) {
                return ';';
            }
            return index < HEAD_NUMBERS ? '/' : ',';
        }

        private long numberAt(int index) {
            return index < 0 || index >= count || index >= numbers.length ? 0 : numbers[index];
        }

        private int items() {
            return (count - HEAD_NUMBERS) / PARTS;
        }

        private long partAt(int item, int part) {
            return numberAt(HEAD_NUMBERS + item * PARTS + part);
        }

        boolean isInRange() {
            if (!areSettings(numberAt(0), numberAt(1), numberAt(3))
                    || !isWithin(numberAt(2), Integer.MIN_VALUE, Integer.MAX_VALUE)) {
                return false;
            }
            long latest = -1;
            for (int i = 0; i < items(); i++) {
                long number = partAt(i, NUMBER);
                if (number <= latest || number > MOST_READ_NUMBER
                        || !areParts(partAt(i, KEY), partAt(i, STRATUM), partAt(i, WEIGHT), partAt(i, VALUE))) {
                    return false;
                }
                latest = number;
            }
            return true;
        }

        boolean fitsSpan() {
            long span = numberAt(3);
            return items() <= (span == 0 ? MOST_ITEMS : span);
        }

        void fill(Summary held) {
            held.begin((int) numberAt(0), (int) numberAt(1), (int) numberAt(2), (int) numberAt(3));
            for (int i = 0; i < items(); i++) {
                held.push((int) partAt(i, NUMBER), (int) partAt(i, KEY), (int) partAt(i, STRATUM),
                        (int) partAt(i, WEIGHT), (int) partAt(i, VALUE));
            }
        }
    }
}
