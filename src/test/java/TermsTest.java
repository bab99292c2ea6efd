/** The sentences of 'What it is' and 'Terms', each with tests of its own: both sides of every boundary it names. */
public final class TermsTest {
    private static String ones(int count) {
        return "1".repeat(count);
    }

    private static String zeros(int count) {
        return "0".repeat(count);
    }

    /** The count lowest binary digits of the number. */
    private static String digits(long number, int count) {
        return Long.toBinaryString(number | 1L << 40).substring(41 - count);
    }

    private static long number(String bits) {
        return bits.isEmpty() ? 0 : Long.parseLong(bits, 2);
    }

    private static String flipped(String bits, int n) {
        return bits.substring(0, n) + (bits.charAt(n) == '0' ? "1" : "0") + bits.substring(n + 1);
    }

    /** As Calls.leaving, for at most 56 bits, with variable y made the value, -128 to 127, just before them. */
    private static String leavingWith(int y, int value, String bits) {
        int passed = 56 - bits.length();
        return Calls.feedBits(zeros(passed) + digits(value & 255, 8) + bits) + Calls.passBits(passed)
            + "field(" + y + ", 8, 1); ";
    }

    /** The 32 bits of a variable and 32 more, for a rule that reads the variable first. */
    private static String feedNumberAnd(int value, String bits) {
        return Calls.feedBits(digits(value & 0xFFFFFFFFL, 32) + bits);
    }

    private static void fiveHundredAndTwelveCalls() {
        Calls.sentence("An object is used for at most 512 calls after it has been made");
        Calls.run("511 x rules(); rules() = 0");
        Calls.run("feed(1); 510 x put(0, 7); put(0, 8) = 7");
        Calls.run("8 x feed(1); 503 x feed(2); feed(3) = FULL");
        Calls.run("6 x literal(0, 0); 505 x rest(0); rest(0) = FULL");
        Calls.run("6 x end(); 505 x end(); end() = FULL");
        Calls.run("511 x unend(); unend() = NONE");
        Calls.run("end(); unend(); ".repeat(255) + "end() = 0; rules() = 1");
        Calls.run("rest(1); scrap(); ".repeat(255) + "rest(1) = 1; segments() = 1");
        Calls.run("feed(200); empty(); ".repeat(255) + "feed(200) = 1; feed(200) = 2");
        Calls.run("rest(2); end(); feed(9); " + "bound(2) = 8; match() = 0; ".repeat(254) + "fitting() = 1");
        Calls.run("5 x end(); rest(2); end(); feed(9); " + "boundBy(5, 2) = 8; ".repeat(503) + "matchFrom(5) = 5");
    }

    private static void bufferSizes() {
        Calls.sentence("The BUFFER has 0 to 8 bytes (numbers 0 to 255), so B = 8 times as many BITS");
        String calls = "rest(0); end(); bound(0) = 0; ";
        for (int bytes = 1; bytes <= 8; bytes++) {
            calls += "feed(" + (bytes % 2 == 0 ? 0 : 255) + ") = " + bytes + "; bound(0) = " + 8 * bytes + "; ";
        }
        Calls.run(calls + "feed(0) = FULL; bound(0) = 64");
        for (int b = 0; b <= 255; b++) {
            Calls.run("field(0, 8, 0); end(); feed(" + b + ") = 1; bound(0) = " + b + "; put(0, 0) = " + b);
        }
    }

    private static void bitZero() {
        Calls.sentence("bit 0 is the highest bit of the first byte");
        for (int set = 0; set < 64; set++) {
            String feeds = Calls.feedBits(zeros(set) + "1" + zeros(63 - set));
            for (int read = 0; read < 64; read++) {
                Calls.run(feeds + Calls.passBits(read) + "field(0, 1, 0); rest(1); end(); bound(0) = "
                    + (set == read ? 1 : 0) + "; bound(1) = " + (63 - read));
            }
        }
    }

    private static void variables() {
        Calls.sentence("VARIABLES 0 to 3 hold ints.");
        int[] values = {0, 1, -1, Integer.MIN_VALUE, Integer.MIN_VALUE + 1, Integer.MAX_VALUE};
        for (int x = 0; x < 4; x++) {
            for (int value : values) {
                String calls = feedNumberAnd(value, "") + "field(" + x + ", 32, 0); end(); ";
                for (int other = 0; other < 4; other++) {
                    calls += "bound(" + other + ") = " + (other == x ? value : 0) + "; ";
                }
                Calls.run(calls);
            }
        }
        Calls.run("field(0, 8, 0); field(1, 8, 0); field(2, 8, 0); field(3, 8, 0); end(); feed(9); feed(8); feed(7); "
            + "feed(6); bound(0) = 9; bound(1) = 8; bound(2) = 7; bound(3) = 6");
    }

    private static void sixRules() {
        Calls.sentence("There are at most 6 RULES, numbered 0, 1, .. in the order in which they were ended");
        String calls = "";
        for (int k = 0; k < 6; k++) {
            calls += "literal(8, " + (k + 10) + "); end() = " + k + "; ";
        }
        calls += "literal(8, 16); end() = FULL; rules() = 6; feed(0); ";
        for (int k = 0; k < 6; k++) {
            calls += "put(0, " + (k + 10) + "); match() = " + k + "; fitting() = " + (1 << k) + "; ";
        }
        Calls.run(calls + "put(0, 16); match() = NONE; unend() = 5; end() = 5; match() = 5; put(0, 15); "
            + "match() = NONE");
    }

    private static void sixSegments() {
        Calls.sentence("each a list of at most 6 SEGMENTS");
        String six = "literal(4, 10) = 1; field(0, 4, 0) = 2; sized(1, 0, 8) = 3; skip(0, 4) = 4; same(0, 0) = 5; "
            + "rest(2) = 6; ";
        Calls.run(six + "rest(3) = FULL; segments() = 6; end() = 0; feed(0xA2); feed(1); feed(2); feed(3); feed(4); "
            + "match() = 0; bound(0) = 2; bound(1) = 258; bound(2) = 8; bound(3) = 0");
        Calls.run("6 x literal(1, 1); end(); 5 x literal(1, 1); literal(3, 7); end(); 5 x literal(1, 1); "
            + "literal(3, 6); end(); feed(0xFF); fitting() = 2; put(0, 0xFE); fitting() = 4");
    }

    private static void thirtySegments() {
        Calls.sentence("at most 30 segments in all rules together");
        Calls.run("6 x literal(0, 0); end(); ".repeat(5) + "rest(0) = FULL; end() = 5; rest(0) = FULL; rules() = 6");
        Calls.run("5 x literal(0, 0); end(); ".repeat(5) + "rest(0) = 1; 3 x rest(0); rest(0) = 5; rest(0) = FULL; "
            + "end() = 5; rest(0) = FULL; unend() = 5; rest(0) = 1");
        Calls.run("6 x literal(0, 0); end(); ".repeat(4) + "5 x literal(0, 0); end(); rest(0) = 1; rest(0) = FULL; "
            + "end() = 5");
        String calls = "";
        for (int k = 0; k < 6; k++) {
            calls += "literal(1, 0); literal(2, 2); literal(1, 1); field(" + k % 4 + ", 4, 0); literal(8, " + k + "); "
                + "end() = " + k + "; ";
        }
        calls += "feed(0x5B); feed(0); ";
        for (int k = 0; k < 6; k++) {
            calls += "put(1, " + k + "); match() = " + k + "; boundBy(" + k + ", " + k % 4 + ") = 11; fitting() = "
                + (1 << k) + "; ";
        }
        Calls.run(calls + "put(0, 0x5B) = 0x5B; put(0, 0xDB); fitting() = 0; put(0, 0x1B); fitting() = 0; "
            + "put(0, 0x4B); fitting() = 0");
    }

    private static void beginning() {
        Calls.sentence("begin at bit 0 with all variables 0");
        Calls.run("field(0, 8, 0); literal(8, 1); end(); same(0, 1); field(1, 8, 0); rest(2); end(); feed(9); feed(2); "
            + "match() = 1; bound(0) = 0; bound(1) = 9; bound(2) = 8");
        String every = "field(0, 8, 0); field(1, 8, 0); field(2, 8, 0); field(3, 8, 0); rest(0); literal(1, 0); "
            + "end(); ";
        Calls.run(every + "rest(1); end(); feed(7); feed(7); feed(7); feed(7); match() = 1; bound(0) = 0; "
            + "bound(1) = 32; bound(2) = 0; bound(3) = 0; bound(1) = 32; fitting() = 2; match() = 1");
        for (int x = 0; x < 4; x++) {
            Calls.run(every + "skip(" + x + ", 8); rest(0); end(); feed(7); feed(7); feed(7); feed(7); bound(0) = 32; "
                + "bound(0) = 32");
        }
    }

    private static void segmentsInOrder() {
        Calls.sentence("take its segments in order, each beginning at the bit behind the one before");
        Calls.run("literal(3, 5); field(0, 6, 0); field(1, 5, 0); literal(2, 1); end(); feed(0xB3); feed(0x6D); "
            + "match() = 0; bound(0) = 0x26; bound(1) = 0x1B");
        Calls.run("literal(2, 1); field(1, 5, 0); field(0, 6, 0); literal(3, 5); end(); feed(0xB3); feed(0x6D); "
            + "match() = NONE; put(0, 0x5A); put(1, 0xF5); match() = 0; bound(1) = 13; bound(0) = 30");
        Calls.run("field(0, 8, 0); sized(1, 0, 1); rest(2); end(); sized(1, 0, 1); field(0, 8, 0); rest(2); end(); "
            + "feed(3); feed(0xA0); boundBy(0, 1) = 5; boundBy(0, 2) = 5; boundBy(1, 1) = 0; boundBy(1, 2) = 8");
    }

    private static void everySegmentAndNoBitLeft() {
        Calls.sentence("the rule FITS if every segment fits and behind the last one no bit is left");
        for (int width = 0; width <= 32; width++) {
            Calls.run("feed(1); feed(2); field(0, " + width + ", 0); end(); match() = " + (width == 16 ? "0" : "NONE"));
        }
        for (int unlike = 0; unlike < 6; unlike++) {
            String calls = "feed(0xF8); ";
            for (int n = 0; n < 6; n++) {
                int width = n == 5 ? 3 : 1;
                int right = n == 5 ? 0 : 1;
                calls += "literal(" + width + ", " + (n == unlike ? 1 - right : right) + "); ";
            }
            Calls.run(calls + "end(); fitting() = 0; put(0, " + (unlike == 5 ? 0xF9 : 0xF8 ^ 0x80 >> unlike) + "); "
                + "fitting() = 1");
        }
    }

    private static void noSegments() {
        Calls.sentence("a rule without segments fits an empty buffer only");
        Calls.run("end(); match() = 0; fitting() = 1; boundBy(0, 0) = 0; feed(0) = 1; match() = NONE; fitting() = 0; "
            + "7 x feed(0); match() = NONE; empty(); match() = 0");
        Calls.run("6 x end(); fitting() = 63; feed(255); fitting() = 0");
    }

    private static void literalBitsLeft() {
        Calls.sentence("literal w v: fits if w bits are left");
        for (int w = 0; w <= 16; w++) {
            String literal = "literal(" + w + ", 0); ";
            Calls.run(Calls.leaving(zeros(w)) + literal + "end(); match() = 0");
            if (w > 0) {
                Calls.run(Calls.leaving(zeros(w - 1)) + literal + "end(); match() = NONE");
                Calls.run(Calls.leaving(ones(w - 1)) + "literal(" + w + ", " + number(ones(w - 1)) + "); end(); "
                    + "match() = NONE");
            }
        }
        Calls.run("literal(0, 0); end(); literal(1, 0); end(); fitting() = 1");
    }

    private static void literalNumber() {
        Calls.sentence("literal w v: and are the number v (first bit highest)");
        for (int w = 0; w <= 16; w++) {
            long[] numbers = {0, number(ones(w)), 0xB3C5 >> 16 - w, w == 0 ? 0 : 1, w == 0 ? 0 : 1 << w - 1};
            for (long v : numbers) {
                String bits = digits(v, w);
                String literal = "literal(" + w + ", " + v + ") = 3; end(); ";
                Calls.run(Calls.leaving(bits) + literal + "match() = 0");
                for (int n = 0; n < w; n++) {
                    Calls.run(Calls.leaving(flipped(bits, n)) + literal + "match() = NONE");
                }
            }
        }
    }

    private static void literalUsesUp() {
        Calls.sentence("literal w v: uses them up");
        for (int w = 0; w <= 16; w++) {
            String begin = Calls.leaving(ones(w) + "0") + "literal(" + w + ", " + number(ones(w)) + "); ";
            Calls.run(begin + "end(); match() = NONE");
            Calls.run(begin + "field(0, 1, 0); rest(1); end(); match() = 0; bound(0) = 0; bound(1) = 0");
            Calls.run(begin + "rest(1); end(); bound(1) = 1");
        }
    }

    private static void fieldBitsLeft() {
        Calls.sentence("field x w s e: fits if w bits are left; uses them up");
        for (int w = 0; w <= 32; w++) {
            for (int flags = 0; flags <= 3; flags++) {
                if (flags < 2 || w == 8 || w == 16 || w == 24 || w == 32) {
                    String field = "field(0, " + w + ", " + flags + "); ";
                    Calls.run(Calls.leaving(ones(w)) + field + "end(); match() = 0");
                    Calls.run(Calls.leaving(ones(w) + "0") + field + "end(); match() = NONE");
                    Calls.run(Calls.leaving(ones(w) + "01") + field + "field(1, 2, 0); rest(2); end(); bound(1) = 1; "
                        + "bound(2) = 0");
                    if (w > 0) {
                        Calls.run(Calls.leaving(ones(w - 1)) + field + "end(); match() = NONE");
                        Calls.run(Calls.leaving(ones(w - 1)) + field + "rest(2); end(); match() = NONE");
                    }
                }
            }
        }
    }

    private static void fieldFirstBitHighest() {
        Calls.sentence("if e is 0 the bits with the first one highest");
        for (int w = 1; w <= 32; w++) {
            for (int set = 0; set < w; set++) {
                String bits = zeros(set) + "1" + zeros(w - 1 - set);
                Calls.run(Calls.leaving(bits) + "field(0, " + w + ", 0); end(); bound(0) = " + (1 << w - 1 - set));
            }
            String mixed = "10110011100011110000101001100110".substring(0, w);
            Calls.run(Calls.leaving(mixed) + "field(2, " + w + ", 0); end(); bound(2) = " + (int) number(mixed));
        }
    }

    private static void fieldFirstByteLowest() {
        Calls.sentence("if e is 1 (then w is 8, 16, 24 or 32) the bytes with the first one lowest, "
            + "in each byte the first bit highest");
        for (int w = 8; w <= 32; w += 8) {
            for (int set = 0; set < w; set++) {
                for (int start = 0; start <= 32; start++) {
                    String bits = ones(start) + zeros(set) + "1" + zeros(w - 1 - set) + ones(64 - w - start);
                    int due = 1 << set / 8 * 8 + 7 - set % 8;
                    Calls.run(Calls.feedBits(bits) + "field(1, " + start + ", 0); field(0, " + w + ", 2); rest(2); "
                        + "end(); bound(0) = " + due + "; bound(2) = " + (64 - w - start));
                }
            }
        }
        Calls.run("feed(1); feed(2); feed(3); feed(4); field(0, 32, 2); end(); bound(0) = 0x04030201");
        Calls.run("feed(0x12); feed(0x34); feed(0x56); field(1, 4, 0); field(0, 16, 2); rest(2); end(); "
            + "bound(0) = 0x4523; bound(2) = 4");
    }

    private static void fieldUnsigned() {
        Calls.sentence("With s = 0 the number is the remainder of that modulo 2 to the 32 as an int "
            + "(so it can be negative only if w is 32)");
        for (int w = 0; w <= 31; w++) {
            Calls.run(Calls.leaving(ones(w)) + "field(0, " + w + ", 0); end(); bound(0) = " + ((1L << w) - 1));
        }
        Calls.run(Calls.leaving(ones(32)) + "field(0, 32, 0); end(); bound(0) = -1");
        Calls.run(Calls.leaving("1" + zeros(31)) + "field(0, 32, 0); end(); bound(0) = MIN");
        Calls.run(Calls.leaving("0" + ones(31)) + "field(0, 32, 0); end(); bound(0) = MAX");
        for (int w = 8; w <= 24; w += 8) {
            Calls.run(Calls.leaving(ones(w)) + "field(0, " + w + ", 2); end(); bound(0) = " + ((1L << w) - 1));
        }
        Calls.run(Calls.leaving(ones(32)) + "field(0, 32, 2); end(); bound(0) = -1");
        Calls.run(Calls.leaving(zeros(24) + "10000000") + "field(0, 32, 2); end(); bound(0) = MIN");
        Calls.run(Calls.leaving(ones(24) + "01111111") + "field(0, 32, 2); end(); bound(0) = MAX");
    }

    private static void fieldSigned() {
        Calls.sentence("with s = 1 it is less by 2 to the power w if its highest binary digit (of w) is 1");
        for (int w = 1; w <= 32; w++) {
            long half = 1L << w - 1;
            String field = "field(0, " + w + ", 1); end(); bound(0) = ";
            Calls.run(Calls.leaving(zeros(w)) + field + 0);
            Calls.run(Calls.leaving("0" + ones(w - 1)) + field + (half - 1));
            Calls.run(Calls.leaving("1" + zeros(w - 1)) + field + -half);
            Calls.run(Calls.leaving(ones(w)) + field + -1);
        }
        for (int w = 8; w <= 32; w += 8) {
            long half = 1L << w - 1;
            String field = "field(0, " + w + ", 3); end(); bound(0) = ";
            Calls.run(Calls.leaving(ones(w - 8) + "01111111") + field + (half - 1));
            Calls.run(Calls.leaving(zeros(w - 8) + "10000000") + field + -half);
            Calls.run(Calls.leaving(ones(w)) + field + -1);
            Calls.run(Calls.leaving(zeros(w)) + field + 0);
        }
        Calls.run("feed(0x80); feed(1); field(0, 16, 3); end(); bound(0) = 0x0180");
        Calls.run("feed(1); feed(0x80); field(0, 16, 3); end(); bound(0) = -32767");
    }

    private static void fieldOfNoBits() {
        Calls.sentence("(for w = 0 it is 0)");
        Calls.run("field(0, 0, 1); end(); match() = 0; bound(0) = 0");
        for (int flags = 0; flags <= 1; flags++) {
            Calls.run("feed(255); field(0, 8, 1); field(0, 0, " + flags + "); end(); match() = 0; bound(0) = 0");
            Calls.run("feed(255); field(0, 0, " + flags + "); rest(1); end(); match() = 0; bound(0) = 0; bound(1) = 8");
        }
    }

    private static void sizedWidth() {
        Calls.sentence("sized x y u: the width w is the value of variable y at this moment times u");
        String bits = "1011001110001111000010100110011010110111";
        for (int value = 0; value <= 32; value++) {
            for (int u = 1; value * u <= 32 && u <= 8; u++) {
                for (int y = 0; y < 4; y++) {
                    int w = value * u;
                    Calls.run(leavingWith(y, value, bits) + "sized(" + (y + 1) % 4 + ", " + y + ", " + u + "); rest("
                        + (y + 2) % 4 + "); end(); match() = 0; bound(" + (y + 1) % 4 + ") = "
                        + (int) number(bits.substring(0, w)) + "; bound(" + (y + 2) % 4 + ") = " + (40 - w) + "; "
                        + "bound(" + y + ") = " + value);
                }
            }
        }
        Calls.run("feed(1); feed(0x5F); feed(255); field(0, 8, 0); sized(0, 0, 3); sized(3, 0, 1); rest(2); end(); "
            + "bound(0) = 2; bound(3) = 3; bound(2) = 11");
        Calls.run("feed(3); feed(0xBF); sized(1, 0, 8); field(0, 8, 0); sized(2, 0, 1); rest(3); end(); bound(1) = 0; "
            + "bound(2) = 5; bound(3) = 5");
    }

    private static void sizedFrom0To32() {
        Calls.sentence("sized x y u: fits if w is 0 to 32");
        for (int value = -128; value <= 127; value++) {
            for (int u = 1; u <= 8; u++) {
                int w = value * u;
                Calls.run(leavingWith(0, value, ones(48)) + "sized(1, 0, " + u + "); rest(2); end(); match() = "
                    + (w >= 0 && w <= 32 ? "0" : "NONE") + "; bound(2) = " + (w >= 0 && w <= 32 ? 48 - w : 0));
            }
        }
        Calls.run(leavingWith(0, 33, ones(33)) + "sized(1, 0, 1); end(); match() = NONE");
        Calls.run(leavingWith(0, 5, ones(40)) + "sized(1, 0, 8); end(); match() = NONE");
        Calls.run(feedNumberAnd(Integer.MIN_VALUE, ones(32)) + "field(0, 32, 0); sized(1, 0, 1); rest(2); end(); "
            + "match() = NONE");
        Calls.run(feedNumberAnd(Integer.MAX_VALUE, ones(32)) + "field(0, 32, 0); sized(1, 0, 1); rest(2); end(); "
            + "match() = NONE");
    }

    private static void sizedBitsLeft() {
        Calls.sentence("sized x y u: and w bits are left; uses them up");
        for (int w = 0; w <= 32; w++) {
            Calls.run(leavingWith(0, w, ones(w)) + "sized(1, 0, 1); end(); match() = 0");
            Calls.run(leavingWith(0, w, ones(w) + "0") + "sized(1, 0, 1); end(); match() = NONE");
            Calls.run(leavingWith(0, w, ones(w) + "01") + "sized(1, 0, 1); field(2, 2, 0); end(); match() = 0; "
                + "bound(2) = 1");
            if (w > 0) {
                Calls.run(leavingWith(0, w, ones(w - 1)) + "sized(1, 0, 1); end(); match() = NONE");
                Calls.run(leavingWith(0, w, ones(w - 1)) + "sized(1, 0, 1); rest(2); end(); match() = NONE");
            }
        }
        Calls.run(leavingWith(0, 2, ones(16)) + "sized(1, 0, 8); end(); match() = 0");
        Calls.run(leavingWith(0, 2, ones(15)) + "sized(1, 0, 8); end(); match() = NONE");
    }

    private static void sizedNumber() {
        Calls.sentence("sized x y u: variable x becomes the number they are as for field x w 0 0 (0 if w is 0)");
        for (int w = 0; w <= 32; w++) {
            String[] patterns = {ones(w), zeros(w), "10110011100011110000101001100110".substring(0, w),
                w == 0 ? "" : "1" + zeros(w - 1), w == 0 ? "" : zeros(w - 1) + "1"};
            for (String bits : patterns) {
                Calls.run(leavingWith(0, w, bits) + "sized(1, 0, 1); end(); match() = 0; bound(1) = "
                    + (int) number(bits));
            }
        }
        Calls.run("feed(255); field(0, 8, 0); sized(0, 1, 8); end(); match() = 0; bound(0) = 0");
        Calls.run("feed(0); field(1, 8, 0); sized(1, 1, 8); end(); match() = 0; bound(1) = 0");
        Calls.run("sized(1, 0, 8); end(); match() = 0; bound(1) = 0");
    }

    private static void skipWidth() {
        Calls.sentence("skip y u: the width w is the value of variable y at this moment times u");
        for (int value = 0; value <= 40; value++) {
            for (int u = 1; value * u <= 40 && u <= 8; u++) {
                for (int y = 0; y < 4; y++) {
                    int left = 40 - value * u;
                    Calls.run(leavingWith(y, value, zeros(40)) + "skip(" + y + ", " + u + "); rest(" + (y + 1) % 4
                        + "); end(); match() = 0; bound(" + (y + 1) % 4 + ") = " + left + "; bound(" + y + ") = "
                        + value);
                }
            }
        }
        Calls.run("feed(3); feed(2); feed(1); skip(0, 8); field(0, 8, 0); skip(0, 1); field(0, 5, 0); skip(0, 3); "
            + "rest(1); end(); match() = 0; bound(0) = 2; bound(1) = 2");
    }

    private static void skipFromZero() {
        Calls.sentence("skip y u: fits if w is 0 or more");
        for (int value = -128; value <= 127; value++) {
            for (int u = 1; u <= 8; u++) {
                int w = value * u;
                Calls.run(leavingWith(0, value, ones(48)) + "skip(0, " + u + "); rest(2); end(); match() = "
                    + (w >= 0 && w <= 48 ? "0" : "NONE") + "; bound(2) = " + (w >= 0 && w <= 48 ? 48 - w : 0));
            }
        }
        Calls.run("skip(0, 8); end(); match() = 0");
        Calls.run(feedNumberAnd(Integer.MIN_VALUE, ones(32)) + "field(0, 32, 0); skip(0, 1); rest(2); end(); "
            + "match() = NONE");
        Calls.run(feedNumberAnd(-1, ones(32)) + "field(0, 32, 0); skip(0, 1); rest(2); end(); match() = NONE");
    }

    private static void skipBitsLeft() {
        Calls.sentence("skip y u: and w bits are left; uses them up");
        for (int w = 0; w <= 56; w++) {
            Calls.run(leavingWith(0, w, ones(w)) + "skip(0, 1); end(); match() = 0");
            if (w > 0) {
                Calls.run(leavingWith(0, w, ones(w - 1)) + "skip(0, 1); end(); match() = NONE");
                Calls.run(leavingWith(0, w, ones(w - 1)) + "skip(0, 1); rest(2); end(); match() = NONE");
            }
            if (w <= 54) {
                Calls.run(leavingWith(0, w, ones(w) + "0") + "skip(0, 1); end(); match() = NONE");
                Calls.run(leavingWith(0, w, ones(w) + "01") + "skip(0, 1); field(2, 2, 0); end(); match() = 0; "
                    + "bound(2) = 1");
            }
        }
        Calls.run("feed(0xF0); 7 x feed(0); field(0, 4, 0); skip(0, 4); end(); match() = 0; bound(0) = 15");
        Calls.run("feed(0xF0); 6 x feed(0); field(0, 4, 0); skip(0, 4); end(); match() = NONE");
        Calls.run(feedNumberAnd(Integer.MAX_VALUE, ones(32)) + "field(0, 32, 0); skip(0, 1); rest(2); end(); "
            + "match() = NONE");
    }

    private static void sameVariables() {
        Calls.sentence("same x y: fits if variables x and y are the same at this moment");
        String four = "field(0, 8, 0); field(1, 8, 0); field(2, 8, 0); field(3, 8, 0); ";
        for (int x = 0; x < 4; x++) {
            for (int y = 0; y < 4; y++) {
                String calls = four + "same(" + x + ", " + y + "); end(); feed(5); feed(6); feed(7); feed(8); "
                    + "match() = " + (x == y ? "0" : "NONE") + "; ";
                Calls.run(calls + "put(" + x + ", 9); put(" + y + ", 9); match() = 0; put(" + x + ", 8); match() = "
                    + (x == y ? "0" : "NONE"));
            }
        }
        Calls.run("field(0, 8, 0); field(1, 8, 1); same(0, 1); end(); feed(127); feed(127); match() = 0; put(0, 255); "
            + "put(1, 255); match() = NONE");
        Calls.run("field(0, 32, 0); field(1, 32, 0); same(0, 1); end(); 8 x feed(0); match() = 0; put(0, 128); "
            + "match() = NONE; put(4, 128); match() = 0; put(3, 1); match() = NONE; put(7, 1); match() = 0; "
            + "put(5, 1); match() = NONE");
        Calls.run("field(0, 8, 0); same(0, 1); field(1, 8, 0); end(); field(0, 8, 0); field(1, 8, 0); same(0, 1); "
            + "end(); feed(5); feed(5); fitting() = 2; put(0, 0); fitting() = 1; put(1, 0); fitting() = 3");
    }

    private static void sameUsesNoBits() {
        Calls.sentence("same x y: uses no bits");
        Calls.run("same(0, 1); end(); match() = 0; feed(0); match() = NONE");
        Calls.run("same(0, 1); rest(2); end(); bound(2) = 0; feed(0); bound(2) = 8");
        Calls.run("field(0, 3, 0); same(0, 0); same(3, 3); field(1, 5, 0); end(); feed(0xB5); bound(0) = 5; "
            + "bound(1) = 21");
    }

    private static void restOfTheBits() {
        Calls.sentence("rest x: always fits; variable x becomes the number of bits left; uses them all up");
        for (int left = 0; left <= 64; left++) {
            for (int x = 0; x < 4; x++) {
                Calls.run(Calls.leaving(ones(left)) + "rest(" + x + "); end(); match() = 0; bound(" + x + ") = "
                    + left);
            }
            Calls.run(Calls.leaving(ones(left)) + "rest(0); rest(1); field(2, 0, 0); end(); match() = 0; bound(0) = "
                + left + "; bound(1) = 0");
            Calls.run(Calls.leaving(ones(left)) + "rest(0); field(1, 1, 0); end(); match() = NONE");
            Calls.run(Calls.leaving(ones(left)) + "rest(0); literal(1, 1); end(); match() = NONE");
        }
        Calls.run("rest(0); rest(0); end(); match() = 0; feed(1); match() = 0; bound(0) = 0");
    }

    /** Every int that times u is the product, beyond the one that gives it without wrapping. */
    private static void wrapsTo(int u, int product) {
        boolean fits = product >= 0 && product <= 32;
        for (long turns = -4; turns <= 4; turns++) {
            long whole = product + (turns << 32);
            if (turns != 0 && whole % u == 0 && whole / u == (int) (whole / u)) {
                String begin = feedNumberAnd((int) (whole / u), ones(32)) + "field(0, 32, 0); ";
                String answers = "rest(2); end(); match() = " + (fits ? "0" : "NONE") + "; bound(2) = "
                    + (fits ? 32 - product : 0);
                Calls.run(begin + "skip(0, " + u + "); " + answers);
                Calls.run(begin + "sized(1, 0, " + u + "); " + answers + "; bound(1) = "
                    + (fits ? (1L << product) - 1 : 0));
            }
        }
    }

    private static void products() {
        Calls.sentence("\"times u\" is a product of Java ints; the result counts as it wraps.");
        int[] edges = {Integer.MIN_VALUE, Integer.MAX_VALUE, -64, 64};
        for (int u = 2; u <= 8; u++) {
            for (int product = -9; product <= 41; product++) {
                wrapsTo(u, product);
            }
            for (int edge : edges) {
                wrapsTo(u, edge);
            }
        }
        Calls.run("field(0, 32, 0); sized(1, 0, 8); end(); feed(0x20); feed(0); feed(0); feed(1); feed(0xAB); "
            + "match() = 0; bound(1) = 0xAB; put(0, 0x10); match() = NONE; put(0, 0x80); match() = 0; put(0, 0xE0); "
            + "match() = 0; put(0, 0xF0); match() = NONE");
    }

    private static void nothingThrows() {
        Calls.sentence("No call ever throws.");
        int[] values = {Integer.MIN_VALUE, -1, 0, 1, 3, 4, 6, 8, 9, 16, 32, 255, 256, Integer.MAX_VALUE};
        String others = "segments(); rules(); match(); fitting(); end(); unend(); empty(); scrap(); segments() = 0";
        for (String state : States.ALL) {
            for (int a : values) {
                String one = "rest(" + a + "); feed(" + a + "); matchFrom(" + a + "); bound(" + a + "); ";
                for (int b : values) {
                    String two = "literal(" + a + ", " + b + "); skip(" + a + ", " + b + "); same(" + a + ", " + b
                        + "); put(" + a + ", " + b + "); boundBy(" + a + ", " + b + "); ";
                    String three = "";
                    for (int c : values) {
                        three += "field(" + a + ", " + b + ", " + c + "); sized(" + a + ", " + b + ", " + c + "); ";
                    }
                    Calls.run(state + one + two + three + others);
                }
            }
        }
    }

    public static void main(String[] args) {
        fiveHundredAndTwelveCalls();
        bufferSizes();
        bitZero();
        variables();
        sixRules();
        sixSegments();
        thirtySegments();
        beginning();
        segmentsInOrder();
        everySegmentAndNoBitLeft();
        noSegments();
        literalBitsLeft();
        literalNumber();
        literalUsesUp();
        fieldBitsLeft();
        fieldFirstBitHighest();
        fieldFirstByteLowest();
        fieldUnsigned();
        fieldSigned();
        fieldOfNoBits();
        sizedWidth();
        sizedFrom0To32();
        sizedBitsLeft();
        sizedNumber();
        skipWidth();
        skipFromZero();
        skipBitsLeft();
        sameVariables();
        sameUsesNoBits();
        restOfTheBits();
        products();
        nothingThrows();
        Calls.finish();
    }
}
