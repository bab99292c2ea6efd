/** For each promise: ordinary inputs, the edges that the document names, and wrong inputs. */
public final class PromisesTest {
    private static final int BAD_ARG = -1;
    private static final int FULL = -2;
    private static final int NONE = -4;
    private static final int LEAST = Integer.MIN_VALUE;
    private static final int GREATEST = Integer.MAX_VALUE;

    private static int wrong = 0;
    private static int promise = 0;

    private static void due(String call, int got, int want) {
        if (got != want) {
            wrong++;
            System.out.println("promise " + promise + ": " + call + " answered " + got + ", due is " + want);
        }
    }

    private static BitSyntaxMatch fed(int... bytes) {
        BitSyntaxMatch m = new BitSyntaxMatch();
        feedAll(m, bytes);
        return m;
    }

    private static void feedAll(BitSyntaxMatch m, int... bytes) {
        for (int b : bytes) {
            m.feed(b);
        }
    }

    private static void refill(BitSyntaxMatch m, int... bytes) {
        m.empty();
        feedAll(m, bytes);
    }

    private static void endRules(BitSyntaxMatch m, int count) {
        for (int n = 0; n < count; n++) {
            m.end();
        }
    }

    private static void appendLiterals(BitSyntaxMatch m, int count) {
        for (int n = 0; n < count; n++) {
            m.literal(0, 0);
        }
    }

    /** Five rules of six segments, and none in the rule being made. */
    private static BitSyntaxMatch withThirtySegments() {
        BitSyntaxMatch m = new BitSyntaxMatch();
        for (int n = 0; n < 5; n++) {
            appendLiterals(m, 6);
            m.end();
        }
        return m;
    }

    private static BitSyntaxMatch withSixSegments() {
        BitSyntaxMatch m = new BitSyntaxMatch();
        appendLiterals(m, 6);
        return m;
    }

    private static void newObject() {
        BitSyntaxMatch m = new BitSyntaxMatch();
        due("segments()", m.segments(), 0);
        due("rules()", m.rules(), 0);
        due("match()", m.match(), NONE);
        due("matchFrom(0)", m.matchFrom(0), NONE);
        due("fitting()", m.fitting(), 0);
        due("bound(0)", m.bound(0), 0);
        due("boundBy(0, 0)", m.boundBy(0, 0), 0);
        due("unend()", m.unend(), NONE);
        due("put(0, 0)", m.put(0, 0), BAD_ARG);
        due("end()", m.end(), 0);
        due("match() of the empty rule on the empty buffer", m.match(), 0);
        due("feed(9)", m.feed(9), 1);
        BitSyntaxMatch other = new BitSyntaxMatch();
        due("rules() of a second object", other.rules(), 0);
        due("feed(1) of a second object", other.feed(1), 1);
    }

    private static void literalArguments() {
        BitSyntaxMatch m = new BitSyntaxMatch();
        int[][] refused = {{-1, 0}, {17, 0}, {32, 0}, {33, 0}, {LEAST, 0}, {GREATEST, 0}, {0, 1}, {0, -1}, {1, 2},
            {3, 8}, {4, -1}, {16, 65536}, {16, -1}, {8, GREATEST}, {8, LEAST}};
        for (int[] r : refused) {
            due("literal(" + r[0] + ", " + r[1] + ")", m.literal(r[0], r[1]), BAD_ARG);
        }
        due("segments() after refused calls", m.segments(), 0);
        due("literal(0, 0)", m.literal(0, 0), 1);
        due("literal(1, 1)", m.literal(1, 1), 2);
        due("literal(16, 65535)", m.literal(16, 65535), 3);
        due("literal(16, 0)", m.literal(16, 0), 4);
        due("literal(3, 7)", m.literal(3, 7), 5);
        due("literal(8, 0)", m.literal(8, 0), 6);
        due("literal(8, 0) as the seventh", m.literal(8, 0), FULL);
        due("literal(8, 256) as the seventh", m.literal(8, 256), BAD_ARG);
        due("segments()", m.segments(), 6);
    }

    private static void literalMatching() {
        BitSyntaxMatch m = fed(0xA5, 0x3C);
        m.literal(4, 0xA);
        m.literal(8, 0x53);
        m.literal(4, 0xC);
        m.end();
        m.literal(16, 0xA53C);
        m.end();
        m.literal(16, 0xA53D);
        m.end();
        m.literal(8, 0xA5);
        m.end();
        m.literal(16, 0xA53C);
        m.literal(1, 0);
        m.end();
        m.literal(0, 0);
        m.literal(16, 0xA53C);
        m.literal(0, 0);
        m.end();
        due("fitting() of literals", m.fitting(), 1 + 2 + 32);
        m.empty();
        due("fitting() of literals on no bits", m.fitting(), 0);
    }

    private static void segmentLimits() {
        BitSyntaxMatch m = withThirtySegments();
        due("rules()", m.rules(), 5);
        due("literal(0, 0) as the 31st", m.literal(0, 0), FULL);
        due("literal(0, 1) as the 31st", m.literal(0, 1), BAD_ARG);
        due("segments()", m.segments(), 0);
        due("end() of a rule without segments", m.end(), 5);
        due("literal(0, 0) as the 31st with six rules", m.literal(0, 0), FULL);
        m.unend();
        m.unend();
        due("literal(0, 0) as the 25th", m.literal(0, 0), 1);
        appendLiterals(m, 4);
        due("literal(0, 0) as the 30th", m.literal(0, 0), 6);
        due("literal(0, 0) as the 31st and seventh", m.literal(0, 0), FULL);
        m.scrap();
        appendLiterals(m, 4);
        due("end()", m.end(), 4);
        due("literal(0, 0) as the 29th", m.literal(0, 0), 1);
        due("literal(0, 0) as the 30th", m.literal(0, 0), 2);
        due("literal(0, 0) as the 31st and third", m.literal(0, 0), FULL);
        due("end()", m.end(), 5);
        due("literal(0, 0) with 30 in six rules", m.literal(0, 0), FULL);
        m.unend();
        due("literal(0, 0) with 28 in five rules", m.literal(0, 0), 1);
    }

    private static void keptAcrossSixRules() {
        BitSyntaxMatch m = new BitSyntaxMatch();
        endRules(m, 6);
        due("literal with six rules", m.literal(8, 1), 1);
        due("end() with six rules", m.end(), FULL);
        due("segments() after the refused end", m.segments(), 1);
        due("unend()", m.unend(), 5);
        due("segments() after unend", m.segments(), 1);
        due("end()", m.end(), 5);
        m.feed(1);
        due("match()", m.match(), 5);
    }

    private static void fieldArguments() {
        BitSyntaxMatch m = new BitSyntaxMatch();
        int[][] refused = {{-1, 8, 0}, {4, 8, 0}, {LEAST, 8, 0}, {GREATEST, 8, 0}, {0, -1, 0}, {0, 33, 0},
            {0, LEAST, 0}, {0, GREATEST, 0}, {0, 8, -1}, {0, 8, 4}, {0, 8, LEAST}, {0, 8, GREATEST}, {0, 0, 2},
            {0, 0, 3}, {0, 7, 2}, {0, 9, 3}, {0, 12, 2}, {0, 31, 3}, {0, 4, 2}, {0, 20, 3}, {0, 40, 2}, {0, -8, 2}};
        for (int[] r : refused) {
            due("field(" + r[0] + ", " + r[1] + ", " + r[2] + ")", m.field(r[0], r[1], r[2]), BAD_ARG);
        }
        due("segments() after refused calls", m.segments(), 0);
        int[][] taken = {{0, 0, 0}, {3, 32, 1}, {1, 8, 2}, {2, 16, 3}, {0, 24, 2}, {0, 32, 3}};
        for (int n = 0; n < taken.length; n++) {
            int[] t = taken[n];
            due("field(" + t[0] + ", " + t[1] + ", " + t[2] + ")", m.field(t[0], t[1], t[2]), n + 1);
        }
        due("field(0, 8, 0) as the seventh", m.field(0, 8, 0), FULL);
        due("field(0, 12, 2) as the seventh", m.field(0, 12, 2), BAD_ARG);
        due("field(0, 8, 0) as the 31st", withThirtySegments().field(0, 8, 0), FULL);
    }

    private static void fieldDue(int skipped, int w, int flags, int want, int... bytes) {
        BitSyntaxMatch m = fed(bytes);
        m.field(1, skipped, 0);
        m.field(0, w, flags);
        m.rest(2);
        m.end();
        String call = "bound(0) of field(0, " + w + ", " + flags + ") at bit " + skipped;
        due(call, m.bound(0), want);
        due(call + ": bits left", m.bound(2), 8 * bytes.length - skipped - w);
    }

    private static void fieldMatching() {
        fieldDue(0, 8, 0, 200, 200);
        fieldDue(0, 8, 1, -56, 200);
        fieldDue(0, 8, 2, 200, 200);
        fieldDue(0, 8, 3, -56, 200);
        fieldDue(0, 8, 1, 127, 127);
        fieldDue(0, 0, 1, 0, 255);
        fieldDue(0, 0, 0, 0, 255);
        fieldDue(8, 0, 1, 0, 255);
        fieldDue(0, 1, 0, 1, 128);
        fieldDue(0, 1, 1, -1, 128);
        fieldDue(3, 4, 0, 9, 0x12);
        fieldDue(3, 4, 1, -7, 0x12);
        fieldDue(0, 31, 0, GREATEST, 255, 255, 255, 255);
        fieldDue(0, 31, 1, -1, 255, 255, 255, 255);
        fieldDue(0, 31, 1, -1073741824, 128, 0, 0, 0);
        fieldDue(1, 31, 0, 1 << 30, 0x40, 0, 0, 0);
        fieldDue(0, 32, 0, LEAST, 128, 0, 0, 0);
        fieldDue(0, 32, 1, LEAST, 128, 0, 0, 0);
        fieldDue(0, 32, 0, -1, 255, 255, 255, 255);
        fieldDue(0, 32, 0, 0x01020304, 1, 2, 3, 4);
        fieldDue(0, 32, 2, 0x04030201, 1, 2, 3, 4);
        fieldDue(0, 32, 2, 0x81030201, 1, 2, 3, 0x81);
        fieldDue(0, 32, 3, 0x81030201, 1, 2, 3, 0x81);
        fieldDue(0, 24, 0, 0x810203, 0x81, 2, 3, 4);
        fieldDue(0, 24, 1, 0xFF810203, 0x81, 2, 3, 4);
        fieldDue(0, 24, 2, 0x830281, 0x81, 2, 0x83, 4);
        fieldDue(0, 24, 3, 0xFF830281, 0x81, 2, 0x83, 4);
        fieldDue(0, 24, 3, 0x030281, 0x81, 2, 3, 4);
        fieldDue(0, 16, 2, 0xC802, 2, 200);
        fieldDue(0, 16, 3, -14334, 2, 200);
        fieldDue(0, 16, 3, 0x02C8, 200, 2);
        fieldDue(4, 16, 2, 0x4523, 0x12, 0x34, 0x56);
        fieldDue(4, 16, 3, 0xFFFF8523, 0x12, 0x38, 0x56);
        fieldDue(31, 32, 0, 0xFFFFFFFF, 0, 0, 0, 1, 255, 255, 255, 254);
        fieldDue(32, 32, 2, 0x08070605, 1, 2, 3, 4, 5, 6, 7, 8);
    }

    private static void fieldWidths() {
        BitSyntaxMatch m = fed(1, 2);
        m.field(0, 17, 0);
        m.end();
        m.field(0, 15, 0);
        m.end();
        m.field(0, 24, 2);
        m.end();
        m.field(0, 16, 0);
        m.end();
        m.field(0, 8, 0);
        m.field(0, 8, 0);
        m.end();
        due("fitting() of fields", m.fitting(), 8 + 16);
        due("boundBy(4, 0): the later field counts", m.boundBy(4, 0), 2);
    }

    private static void sizedArguments() {
        BitSyntaxMatch m = new BitSyntaxMatch();
        int[][] refused = {{-1, 0, 1}, {4, 0, 1}, {0, -1, 1}, {0, 4, 1}, {0, 0, 0}, {0, 0, 9}, {0, 0, -1},
            {LEAST, 0, 1}, {GREATEST, 0, 1}, {0, LEAST, 1}, {0, GREATEST, 1}, {0, 0, LEAST}, {0, 0, GREATEST}};
        for (int[] r : refused) {
            due("sized(" + r[0] + ", " + r[1] + ", " + r[2] + ")", m.sized(r[0], r[1], r[2]), BAD_ARG);
        }
        due("segments() after refused calls", m.segments(), 0);
        due("sized(0, 3, 1)", m.sized(0, 3, 1), 1);
        due("sized(3, 0, 8)", m.sized(3, 0, 8), 2);
        appendLiterals(m, 4);
        due("sized(0, 0, 1) as the seventh", m.sized(0, 0, 1), FULL);
        due("sized(0, 0, 9) as the seventh", m.sized(0, 0, 9), BAD_ARG);
        due("sized(0, 0, 1) as the 31st", withThirtySegments().sized(0, 0, 1), FULL);
    }

    private static void sizedMatching() {
        BitSyntaxMatch m = fed(4, 0x81, 2, 3, 4);
        m.field(0, 8, 0);
        m.sized(1, 0, 8);
        m.rest(2);
        m.end();
        due("sized 32 bits", m.bound(1), 0x81020304);
        due("sized 32 bits: none left", m.bound(2), 0);
        m.put(0, 3);
        due("sized 24 bits", m.bound(1), 0x810203);
        m.put(0, 1);
        due("sized 8 bits is not signed", m.bound(1), 0x81);
        m.put(0, 0);
        due("sized 0 bits", m.bound(1), 0);
        due("sized 0 bits: left", m.bound(2), 32);
        m.put(0, 5);
        due("sized 40 bits, 32 left", m.match(), NONE);
        m.feed(5);
        due("sized 40 bits, 40 left", m.match(), NONE);
        m.put(0, 4);
        due("sized 32 bits, 40 left", m.bound(2), 8);
        refill(m, 3, 1, 2);
        due("sized 24 bits, 16 left", m.match(), NONE);
        refill(m, 2, 1, 2);
        due("sized 16 bits, 16 left", m.bound(1), 258);
    }

    private static void sizedByUnit() {
        BitSyntaxMatch m = fed(33, 1, 2, 3, 4, 5);
        m.field(0, 8, 1);
        m.sized(1, 0, 1);
        m.rest(2);
        m.end();
        due("sized 33 bits", m.match(), NONE);
        m.put(0, 32);
        due("sized 32 bits", m.bound(1), 0x01020304);
        m.put(0, 255);
        due("sized -1 bits", m.match(), NONE);
        m.put(0, 7);
        m.put(1, 0xFE);
        due("sized 7 bits", m.bound(1), 127);
        m.unend();
        m.field(0, 8, 0);
        m.sized(0, 0, 3);
        m.sized(3, 0, 1);
        m.rest(2);
        m.end();
        refill(m, 1, 0x5F, 0xFF);
        due("sized takes its own variable's old value", m.bound(0), 2);
        due("sized reads the variable at this moment", m.bound(3), 3);
        due("bits left", m.bound(2), 11);
    }

    private static void sizedByUnbound() {
        BitSyntaxMatch m = fed(255);
        m.field(0, 8, 0);
        m.sized(0, 1, 8);
        m.end();
        due("match(): the width is a variable that is still 0", m.match(), 0);
        due("bound(0): sized 0 bits makes it 0", m.bound(0), 0);
    }

    /** A product of ints that wraps round to a width that fits. */
    private static void wrappedProducts() {
        BitSyntaxMatch m = fed(0x20, 0, 0, 1, 0xAB);
        m.field(0, 32, 0);
        m.sized(1, 0, 8);
        m.end();
        m.field(0, 32, 0);
        m.skip(0, 8);
        m.end();
        due("fitting(): 2^29 + 1 times 8 is 8", m.fitting(), 3);
        due("boundBy(0, 1)", m.boundBy(0, 1), 0xAB);
        m.put(0, 0xE0);
        due("fitting(): -2^29 + 1 times 8 is 8", m.fitting(), 3);
        m.put(0, 0x80);
        due("fitting(): -2^31 + 1 times 8 is 8", m.fitting(), 3);
        m.put(0, 0x10);
        due("fitting(): 2^28 + 1 times 8 is negative", m.fitting(), 0);
        m.put(0, 0x0F);
        due("fitting(): far more than is left", m.fitting(), 0);
    }

    private static void skipArguments() {
        BitSyntaxMatch m = new BitSyntaxMatch();
        int[][] refused = {{-1, 1}, {4, 1}, {0, 0}, {0, 9}, {0, -1}, {LEAST, 1}, {GREATEST, 1}, {0, LEAST}, {0, GREATEST}};
        for (int[] r : refused) {
            due("skip(" + r[0] + ", " + r[1] + ")", m.skip(r[0], r[1]), BAD_ARG);
        }
        due("segments() after refused calls", m.segments(), 0);
        due("skip(0, 1)", m.skip(0, 1), 1);
        due("skip(3, 8)", m.skip(3, 8), 2);
        appendLiterals(m, 4);
        due("skip(0, 1) as the seventh", m.skip(0, 1), FULL);
        due("skip(0, 0) as the seventh", m.skip(0, 0), BAD_ARG);
        due("skip(0, 1) as the 31st", withThirtySegments().skip(0, 1), FULL);
    }

    private static void skipMatching() {
        BitSyntaxMatch m = fed(7, 1, 2, 3, 4, 5, 6, 9);
        m.field(2, 8, 1);
        m.skip(2, 8);
        m.rest(1);
        m.end();
        due("skip 56 bits, all that are left", m.match(), 0);
        due("bound(2)", m.bound(2), 7);
        m.put(0, 8);
        due("skip 64 bits, 56 left", m.match(), NONE);
        m.put(0, 5);
        due("skip 40 bits: more than 32 is fine", m.bound(1), 16);
        m.put(0, 0);
        due("skip 0 bits", m.bound(1), 56);
        m.put(0, 255);
        due("skip -8 bits", m.match(), NONE);
        m.unend();
        m.field(2, 8, 0);
        m.skip(2, 3);
        m.field(3, 5, 0);
        m.rest(1);
        m.end();
        refill(m, 1, 0xF5);
        due("skip 3 bits, then a field", m.bound(3), 0x15);
        m.put(0, 3);
        due("skip 9 bits, 8 left", m.match(), NONE);
    }

    private static void sameArguments() {
        BitSyntaxMatch m = new BitSyntaxMatch();
        int[][] refused = {{-1, 0}, {4, 0}, {0, -1}, {0, 4}, {LEAST, 0}, {GREATEST, 0}, {0, LEAST}, {0, GREATEST}};
        for (int[] r : refused) {
            due("same(" + r[0] + ", " + r[1] + ")", m.same(r[0], r[1]), BAD_ARG);
        }
        due("segments() after refused calls", m.segments(), 0);
        due("same(0, 3)", m.same(0, 3), 1);
        due("same(3, 3)", m.same(3, 3), 2);
        appendLiterals(m, 4);
        due("same(0, 1) as the seventh", m.same(0, 1), FULL);
        due("same(0, 4) as the seventh", m.same(0, 4), BAD_ARG);
        due("same(0, 1) as the 31st", withThirtySegments().same(0, 1), FULL);
    }

    private static void sameMatching() {
        BitSyntaxMatch m = fed(5, 5);
        m.field(0, 8, 0);
        m.field(3, 8, 0);
        m.same(0, 3);
        m.end();
        m.field(0, 8, 0);
        m.same(0, 3);
        m.field(3, 8, 0);
        m.end();
        m.same(1, 2);
        m.field(0, 16, 0);
        m.same(0, 0);
        m.end();
        m.field(0, 8, 0);
        m.same(3, 0);
        m.rest(1);
        m.end();
        m.field(0, 8, 0);
        m.field(1, 8, 1);
        m.same(1, 0);
        m.end();
        due("fitting() of same", m.fitting(), 1 + 4 + 16);
        m.put(1, 6);
        due("fitting() of same on two numbers", m.fitting(), 4);
        m.put(0, 0);
        m.put(1, 0);
        due("fitting() of same on zeros", m.fitting(), 31);
        m.put(0, 255);
        m.put(1, 255);
        due("fitting(): 255 is not -1", m.fitting(), 1 + 4);
    }

    private static void restArguments() {
        BitSyntaxMatch m = new BitSyntaxMatch();
        int[] refused = {-1, 4, LEAST, GREATEST};
        for (int r : refused) {
            due("rest(" + r + ")", m.rest(r), BAD_ARG);
        }
        due("segments() after refused calls", m.segments(), 0);
        due("rest(0)", m.rest(0), 1);
        due("rest(3)", m.rest(3), 2);
        appendLiterals(m, 4);
        due("rest(0) as the seventh", m.rest(0), FULL);
        due("rest(4) as the seventh", m.rest(4), BAD_ARG);
        due("rest(0) as the 31st", withThirtySegments().rest(0), FULL);
    }

    private static void restMatching() {
        BitSyntaxMatch m = new BitSyntaxMatch();
        m.rest(3);
        m.end();
        due("rest of the empty buffer fits", m.match(), 0);
        due("rest of the empty buffer", m.bound(3), 0);
        feedAll(m, 1, 2, 3, 4, 5, 6, 7, 8);
        due("rest of the full buffer", m.bound(3), 64);
        m.field(1, 5, 0);
        m.rest(0);
        m.rest(1);
        m.literal(0, 0);
        m.end();
        due("rest behind 5 bits", m.boundBy(1, 0), 59);
        due("rest behind rest", m.boundBy(1, 1), 0);
        m.rest(0);
        m.literal(1, 0);
        m.end();
        m.rest(0);
        m.field(1, 1, 0);
        m.end();
        due("fitting(): no bit is left behind rest", m.fitting(), 3);
    }

    private static void segmentCounts() {
        BitSyntaxMatch m = fed(1);
        due("segments()", m.segments(), 0);
        int[] answers = {m.literal(1, 1), m.field(0, 1, 0), m.sized(0, 1, 1), m.skip(0, 1), m.same(0, 1), m.rest(0)};
        for (int n = 0; n < answers.length; n++) {
            due("the segment appended as number " + (n + 1), answers[n], n + 1);
        }
        due("segments() after one of each", m.segments(), 6);
        m.match();
        m.empty();
        due("segments() after match and empty", m.segments(), 6);
        m.end();
        due("segments() after end", m.segments(), 0);
    }

    private static void scraps() {
        BitSyntaxMatch m = new BitSyntaxMatch();
        m.literal(8, 1);
        m.end();
        due("segments() after end", m.segments(), 0);
        m.literal(8, 2);
        m.rest(0);
        due("segments()", m.segments(), 2);
        m.scrap();
        due("segments() after scrap", m.segments(), 0);
        due("rules() after scrap", m.rules(), 1);
        m.feed(1);
        due("match() after scrap", m.match(), 0);
        m.scrap();
        due("segments() after a second scrap", m.segments(), 0);
        due("literal(8, 3) after scrap", m.literal(8, 3), 1);
        due("end()", m.end(), 1);
        due("bytes are not scrapped", m.feed(2), 2);
        refill(m, 3);
        due("match() of the rule after scrap", m.match(), 1);
        BitSyntaxMatch full = withSixSegments();
        full.scrap();
        due("literal(0, 0) after scrap of six", full.literal(0, 0), 1);
    }

    private static void ends() {
        BitSyntaxMatch m = new BitSyntaxMatch();
        for (int n = 0; n < 6; n++) {
            m.literal(8, n);
            due("end()", m.end(), n);
            due("rules()", m.rules(), n + 1);
            due("segments()", m.segments(), 0);
        }
        m.rest(0);
        due("end() of a seventh", m.end(), FULL);
        due("rules() after the refused end", m.rules(), 6);
        due("segments() after the refused end", m.segments(), 1);
        for (int n = 0; n < 6; n++) {
            refill(m, n);
            due("match() on " + n, m.match(), n);
            due("fitting() on " + n, m.fitting(), 1 << n);
        }
        refill(m, 6);
        due("match(): the rule being made does not match", m.match(), NONE);
    }

    private static void unends() {
        BitSyntaxMatch m = fed(1);
        m.literal(8, 1);
        m.end();
        m.rest(0);
        m.end();
        m.field(2, 4, 0);
        due("unend()", m.unend(), 1);
        due("rules()", m.rules(), 1);
        due("segments(): the rule being made stays", m.segments(), 1);
        due("fitting()", m.fitting(), 1);
        due("matchFrom(1)", m.matchFrom(1), NONE);
        due("boundBy(1, 0): there is no rule 1 any more", m.boundBy(1, 0), 0);
        due("field(1, 4, 0)", m.field(1, 4, 0), 2);
        due("end()", m.end(), 1);
        due("boundBy(1, 1)", m.boundBy(1, 1), 1);
        due("unend()", m.unend(), 1);
        due("segments(): the removed rule does not come back", m.segments(), 0);
        due("unend()", m.unend(), 0);
        due("unend() of none", m.unend(), NONE);
        due("rules()", m.rules(), 0);
        due("end()", m.end(), 0);
    }

    private static void counts() {
        BitSyntaxMatch m = new BitSyntaxMatch();
        due("rules()", m.rules(), 0);
        endRules(m, 4);
        due("rules()", m.rules(), 4);
        m.unend();
        due("rules()", m.rules(), 3);
        m.empty();
        m.scrap();
        due("rules() after empty and scrap", m.rules(), 3);
        endRules(m, 9);
        due("rules()", m.rules(), 6);
    }

    private static void feeds() {
        BitSyntaxMatch m = new BitSyntaxMatch();
        int[] refused = {-1, 256, LEAST, GREATEST};
        for (int b : refused) {
            due("feed(" + b + ")", m.feed(b), BAD_ARG);
        }
        for (int n = 1; n <= 8; n++) {
            due("feed(" + (n == 1 ? 255 : n - 2) + ")", m.feed(n == 1 ? 255 : n - 2), n);
        }
        due("feed(0) as the ninth", m.feed(0), FULL);
        due("feed(256) as the ninth", m.feed(256), BAD_ARG);
        due("feed(-1) as the ninth", m.feed(-1), BAD_ARG);
        m.field(0, 32, 0);
        m.field(1, 32, 0);
        m.end();
        due("bound(0)", m.bound(0), 0xFF000102);
        due("bound(1)", m.bound(1), 0x03040506);
    }

    private static void puts() {
        BitSyntaxMatch m = fed(10, 20, 30);
        int[][] refused = {{-1, 0}, {3, 0}, {8, 0}, {LEAST, 0}, {GREATEST, 0}, {0, -1}, {0, 256}, {2, LEAST}, {2, GREATEST}};
        for (int[] r : refused) {
            due("put(" + r[0] + ", " + r[1] + ")", m.put(r[0], r[1]), BAD_ARG);
        }
        m.field(0, 24, 0);
        m.end();
        due("bound(0) after refused calls", m.bound(0), 0x0A141E);
        due("put(0, 255)", m.put(0, 255), 10);
        due("put(0, 0)", m.put(0, 0), 255);
        due("put(1, 21)", m.put(1, 21), 20);
        due("put(2, 31)", m.put(2, 31), 30);
        due("put(2, 31)", m.put(2, 31), 31);
        due("bound(0)", m.bound(0), 0x00151F);
        due("feed(40)", m.feed(40), 4);
        due("put(3, 41)", m.put(3, 41), 40);
        m.empty();
        due("put(0, 0) of the empty buffer", m.put(0, 0), BAD_ARG);
        feedAll(m, 1, 2, 3, 4, 5, 6, 7, 8);
        due("put(7, 9)", m.put(7, 9), 8);
        due("put(8, 9)", m.put(8, 9), BAD_ARG);
    }

    private static void empties() {
        BitSyntaxMatch m = fed(1, 2, 3, 4, 5, 6, 7, 8);
        m.end();
        m.rest(1);
        m.end();
        m.literal(8, 9);
        due("fitting()", m.fitting(), 2);
        m.empty();
        due("fitting() after empty", m.fitting(), 3);
        due("boundBy(1, 1) after empty", m.boundBy(1, 1), 0);
        due("rules() after empty", m.rules(), 2);
        due("segments() after empty", m.segments(), 1);
        m.empty();
        due("feed(9) after empty", m.feed(9), 1);
        due("boundBy(1, 1)", m.boundBy(1, 1), 8);
        m.end();
        due("matchFrom(2)", m.matchFrom(2), 2);
    }

    private static BitSyntaxMatch withRulesOneThreeFour() {
        BitSyntaxMatch m = fed(7);
        m.literal(8, 6);
        m.end();
        m.literal(8, 7);
        m.end();
        m.end();
        m.field(2, 8, 0);
        m.end();
        m.field(1, 1, 0);
        m.rest(2);
        m.end();
        return m;
    }

    private static void matches() {
        BitSyntaxMatch m = withRulesOneThreeFour();
        due("match()", m.match(), 1);
        due("match() again", m.match(), 1);
        m.put(0, 6);
        due("match() on 6", m.match(), 0);
        m.put(0, 8);
        due("match() on 8", m.match(), 3);
        m.feed(8);
        due("match() on two bytes", m.match(), 4);
        m.empty();
        due("match() on no byte", m.match(), 2);
        m.unend();
        feedAll(m, 1, 2);
        due("match() of no rule that fits", m.match(), NONE);
    }

    private static void matchesFrom() {
        BitSyntaxMatch m = withRulesOneThreeFour();
        int[] answers = {1, 1, 3, 3, 4, NONE, NONE, NONE};
        for (int k = 0; k < answers.length; k++) {
            due("matchFrom(" + k + ")", m.matchFrom(k), answers[k]);
        }
        due("matchFrom(GREATEST)", m.matchFrom(GREATEST), NONE);
        due("matchFrom(-1)", m.matchFrom(-1), BAD_ARG);
        due("matchFrom(LEAST)", m.matchFrom(LEAST), BAD_ARG);
        due("matchFrom(-1) of a new object", new BitSyntaxMatch().matchFrom(-1), BAD_ARG);
        m.unend();
        due("matchFrom(4) after unend", m.matchFrom(4), NONE);
    }

    private static void bounds() {
        BitSyntaxMatch m = withRulesOneThreeFour();
        due("bound(2) by rule 1, which binds nothing", m.bound(2), 0);
        m.put(0, 200);
        due("bound(2) by rule 3", m.bound(2), 200);
        due("bound(1) by rule 3", m.bound(1), 0);
        m.feed(1);
        due("bound(1) by rule 4", m.bound(1), 1);
        due("bound(2) by rule 4", m.bound(2), 15);
        due("bound(0)", m.bound(0), 0);
        due("bound(3)", m.bound(3), 0);
        int[] noVariable = {-1, 4, LEAST, GREATEST};
        for (int x : noVariable) {
            due("bound(" + x + ")", m.bound(x), 0);
        }
        m.unend();
        for (int x = 0; x < 4; x++) {
            due("bound(" + x + ") if none fits", m.bound(x), 0);
        }
    }

    private static void boundsAreNotKept() {
        BitSyntaxMatch m = fed(9);
        m.field(0, 8, 0);
        m.literal(8, 1);
        m.end();
        m.rest(1);
        m.end();
        due("bound(0): what a rule that fails has read is gone", m.bound(0), 0);
        due("bound(1)", m.bound(1), 8);
        due("matchFrom(1)", m.matchFrom(1), 1);
        due("boundBy(0, 0)", m.boundBy(0, 0), 0);
        due("bound(1) after another rule was asked", m.bound(1), 8);
    }

    private static void boundsBy() {
        BitSyntaxMatch m = withRulesOneThreeFour();
        due("boundBy(3, 2)", m.boundBy(3, 2), 7);
        due("boundBy(3, 1)", m.boundBy(3, 1), 0);
        due("boundBy(4, 2)", m.boundBy(4, 2), 7);
        due("boundBy(1, 2)", m.boundBy(1, 2), 0);
        m.put(0, 0x80);
        due("boundBy(4, 1)", m.boundBy(4, 1), 1);
        int[] noRule = {-1, 5, 6, 7, LEAST, GREATEST};
        for (int k : noRule) {
            due("boundBy(" + k + ", 2)", m.boundBy(k, 2), 0);
        }
        int[] noVariable = {-1, 4, LEAST, GREATEST};
        for (int x : noVariable) {
            due("boundBy(4, " + x + ")", m.boundBy(4, x), 0);
        }
        m.feed(1);
        due("boundBy(3, 2) of a rule that leaves bits", m.boundBy(3, 2), 0);
        m.rest(2);
        due("boundBy(5, 2) of the rule being made", m.boundBy(5, 2), 0);
        due("boundBy(6, 2) of no rule", m.boundBy(6, 2), 0);
    }

    private static void fittings() {
        BitSyntaxMatch m = withRulesOneThreeFour();
        due("fitting()", m.fitting(), 2 + 8 + 16);
        m.rest(0);
        due("fitting(): the rule being made is none", m.fitting(), 2 + 8 + 16);
        m.end();
        due("fitting()", m.fitting(), 2 + 8 + 16 + 32);
        m.put(0, 6);
        due("fitting()", m.fitting(), 1 + 8 + 16 + 32);
        m.empty();
        due("fitting() on no byte", m.fitting(), 4 + 32);
        BitSyntaxMatch all = new BitSyntaxMatch();
        endRules(all, 6);
        due("fitting() of six", all.fitting(), 63);
        all.feed(0);
        due("fitting() of none", all.fitting(), 0);
    }

    private static void allPromises() {
        promise = 1;
        newObject();
        promise = 2;
        literalArguments();
        literalMatching();
        segmentLimits();
        promise = 3;
        fieldArguments();
        fieldMatching();
        fieldWidths();
        promise = 4;
        sizedArguments();
        sizedMatching();
        sizedByUnit();
        sizedByUnbound();
        wrappedProducts();
        promise = 5;
        skipArguments();
        skipMatching();
        promise = 6;
        sameArguments();
        sameMatching();
        promise = 7;
        restArguments();
        restMatching();
        promise = 8;
        segmentCounts();
        promise = 9;
        scraps();
        promise = 10;
        ends();
        keptAcrossSixRules();
        promise = 11;
        unends();
        promise = 12;
        counts();
        promise = 13;
        feeds();
        promise = 14;
        puts();
        promise = 15;
        empties();
        promise = 16;
        matches();
        promise = 17;
        matchesFrom();
        promise = 18;
        bounds();
        boundsAreNotKept();
        promise = 19;
        boundsBy();
        promise = 20;
        fittings();
    }

    public static void main(String[] args) {
        allPromises();
        System.out.println(wrong == 0 ? "all promises are kept" : wrong + " answers are not as due");
        if (wrong != 0) {
            System.exit(1);
        }
    }
}
