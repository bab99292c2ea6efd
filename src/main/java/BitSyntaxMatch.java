public final class BitSyntaxMatch {
    public static final int BAD_ARG = -1;
    public static final int FULL = -2;
    public static final int NONE = -4;

    private static final int MOST_BYTES = 8;
    private static final int MOST_RULES = 6;
    private static final int MOST_SEGMENTS = 6;
    private static final int MOST_SEGMENTS_IN_ALL = 30;
    private static final int VARIABLES = 4;
    private static final int WIDEST_LITERAL = 16;
    private static final int WIDEST_NUMBER = 32;
    private static final int GREATEST_UNIT = 8;

    private static final int LITERAL = 0;
    private static final int FIELD = 1;
    private static final int SIZED = 2;
    private static final int SKIP = 3;
    private static final int SAME = 4;
    private static final int REST = 5;

    // The rule being made has a list of its own behind those of the ended rules, so that unend need not move it.
    private static final int MAKING = MOST_RULES;
    private static final int LISTS = MOST_RULES + 1;
    private static final int PLACES = LISTS * MOST_SEGMENTS;

    private static final int SIGNED = 1;
    private static final int LOW_BYTE_FIRST = 2;

    private final int[] bytes = new int[MOST_BYTES];
    private int byteCount = 0;

    // The segments of list k stand at the places from k * MOST_SEGMENTS on; first, second and third
    // are the arguments of the call that appended the segment, in their order.
    private final int[] kind = new int[PLACES];
    private final int[] first = new int[PLACES];
    private final int[] second = new int[PLACES];
    private final int[] third = new int[PLACES];
    private final int[] length = new int[LISTS];
    private int ruleCount = 0;

    // These hold only while one call matches a rule; every matching begins them anew.
    private final int[] variable = new int[VARIABLES];
    private int position = 0;

    public BitSyntaxMatch() {
    }

    public int literal(int w, int v) {
        if (w < 0 || w > WIDEST_LITERAL || v < 0 || v >= 1 << w) {
            return BAD_ARG;
        }
        return append(LITERAL, w, v, 0);
    }

    public int field(int x, int w, int flags) {
        if (!isVariable(x) || w < 0 || w > WIDEST_NUMBER || flags < 0 || flags > (SIGNED | LOW_BYTE_FIRST)) {
            return BAD_ARG;
        }
        if ((flags & LOW_BYTE_FIRST) != 0 && (w == 0 || w % 8 != 0)) {
            return BAD_ARG;
        }
        return append(FIELD, x, w, flags);
    }

    public int sized(int x, int y, int u) {
        if (!isVariable(x) || !isVariable(y) || !isUnit(u)) {
            return BAD_ARG;
        }
        return append(SIZED, x, y, u);
    }

    public int skip(int y, int u) {
        if (!isVariable(y) || !isUnit(u)) {
            return BAD_ARG;
        }
        return append(SKIP, y, u, 0);
    }

    public int same(int x, int y) {
        if (!isVariable(x) || !isVariable(y)) {
            return BAD_ARG;
        }
        return append(SAME, x, y, 0);
    }

    public int rest(int x) {
        if (!isVariable(x)) {
            return BAD_ARG;
        }
        return append(REST, x, 0, 0);
    }

    public int segments() {
        return length[MAKING];
    }

    public void scrap() {
        length[MAKING] = 0;
    }

    public int end() {
        if (ruleCount >= MOST_RULES) {
            return FULL;
        }
        int number = ruleCount;
        copyMadeRuleTo(number);
        length[MAKING] = 0;
        ruleCount = number + 1;
        return number;
    }

    public int unend() {
        if (ruleCount <= 0) {
            return NONE;
        }
        ruleCount = ruleCount - 1;
        return ruleCount;
    }

    public int rules() {
        return ruleCount;
    }

    public int feed(int b) {
        if (!isByte(b)) {
            return BAD_ARG;
        }
        if (byteCount >= MOST_BYTES) {
            return FULL;
        }
        bytes[byteCount] = b;
        byteCount = byteCount + 1;
        return byteCount;
    }

    public int put(int i, int b) {
        if (i < 0 || i >= byteCount || !isByte(b)) {
            return BAD_ARG;
        }
        int before = bytes[i];
        bytes[i] = b;
        return before;
    }

    public void empty() {
        byteCount = 0;
    }

    public int match() {
        return firstFitting(0);
    }

    public int matchFrom(int k) {
        if (k < 0) {
            return BAD_ARG;
        }
        return firstFitting(k);
    }

    public int bound(int x) {
        if (!isVariable(x) || firstFitting(0) == NONE) {
            return 0;
        }
        return variable[x];
    }

    public int boundBy(int k, int x) {
        if (k < 0 || k >= ruleCount || !isVariable(x) || !ruleFits(k)) {
            return 0;
        }
        return variable[x];
    }

    public int fitting() {
        int set = 0;
        for (int k = 0; k < ruleCount; k++) {
            if (ruleFits(k)) {
                set = set + (1 << k);
            }
        }
        return set;
    }

    private static boolean isVariable(int x) {
        return x >= 0 && x < VARIABLES;
    }

    private static boolean isUnit(int u) {
        return u >= 1 && u <= GREATEST_UNIT;
    }

    private static boolean isByte(int value) {
        return value >= 0 && value <= 255;
    }

    private int append(int newKind, int newFirst, int newSecond, int newThird) {
        int count = length[MAKING];
        if (count >= MOST_SEGMENTS || segmentsInAll() >= MOST_SEGMENTS_IN_ALL) {
            return FULL;
        }
        int place = MAKING * MOST_SEGMENTS + count;
        kind[place] = newKind;
        first[place] = newFirst;
        second[place] = newSecond;
        third[place] = newThird;
        length[MAKING] = count + 1;
        return count + 1;
    }

    private int segmentsInAll() {
        int sum = length[MAKING];
        for (int k = 0; k < ruleCount; k++) {
            sum = sum + length[k];
        }
        return sum;
    }

    private void copyMadeRuleTo(int k) {
        int from = MAKING * MOST_SEGMENTS;
        int to = k * MOST_SEGMENTS;
        for (int n = 0; n < MOST_SEGMENTS; n++) {
            kind[to + n] = kind[from + n];
            first[to + n] = first[from + n];
            second[to + n] = second[from + n];
            third[to + n] = third[from + n];
        }
        length[k] = length[MAKING];
    }

    // The variables are left as the rule answered has bound them: bound reads them.
    private int firstFitting(int from) {
        for (int k = from; k < ruleCount; k++) {
            if (ruleFits(k)) {
                return k;
            }
        }
        return NONE;
    }

    private boolean ruleFits(int k) {
        position = 0;
        for (int x = 0; x < VARIABLES; x++) {
            variable[x] = 0;
        }
        int start = k * MOST_SEGMENTS;
        for (int n = 0; n < length[k]; n++) {
            if (!segmentFits(start + n)) {
                return false;
            }
        }
        return bitsLeft() == 0;
    }

    private boolean segmentFits(int place) {
        switch (kind[place]) {
            case LITERAL:
                return literalFits(first[place], second[place]);
            case FIELD:
                return fieldFits(first[place], second[place], third[place]);
            case SIZED:
                return sizedFits(first[place], second[place], third[place]);
            case SKIP:
                return skipFits(first[place], second[place]);
            case SAME:
                return variable[first[place]] == variable[second[place]];
            default:
                return restFits(first[place]);
        }
    }

    private boolean literalFits(int w, int v) {
        return w <= bitsLeft() && takeBits(w) == v;
    }

    private boolean fieldFits(int x, int w, int flags) {
        if (w > bitsLeft()) {
            return false;
        }
        int number = takeBits(w);
        if ((flags & LOW_BYTE_FIRST) != 0) {
            number = bytesReversed(number, w);
        }
        if ((flags & SIGNED) != 0) {
            number = signed(number, w);
        }
        variable[x] = number;
        return true;
    }

    private boolean sizedFits(int x, int y, int u) {
        int w = variable[y] * u;
        if (w < 0 || w > WIDEST_NUMBER || w > bitsLeft()) {
            return false;
        }
        variable[x] = takeBits(w);
        return true;
    }

    private boolean skipFits(int y, int u) {
        int w = variable[y] * u;
        if (w < 0 || w > bitsLeft()) {
            return false;
        }
        position = position + w;
        return true;
    }

    private boolean restFits(int x) {
        variable[x] = bitsLeft();
        position = byteCount * 8;
        return true;
    }

    private int bitsLeft() {
        return byteCount * 8 - position;
    }

    // The caller has seen that w bits are left, so position stays inside the buffer.
    private int takeBits(int w) {
        int number = 0;
        for (int n = 0; n < w; n++) {
            int bit = (bytes[position >> 3] >> (7 - (position & 7))) & 1;
            number = (number << 1) | bit;
            position = position + 1;
        }
        return number;
    }

    private static int bytesReversed(int number, int w) {
        int reversed = 0;
        for (int low = 0; low < w; low = low + 8) {
            reversed = (reversed << 8) | ((number >>> low) & 255);
        }
        return reversed;
    }

    private static int signed(int number, int w) {
        // For w = 0 Java shifts by 32 as by 0, which leaves the 0 that is due.
        int unused = WIDEST_NUMBER - w;
        return number << unused >> unused;
    }
}
