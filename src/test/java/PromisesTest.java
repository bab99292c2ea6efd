/** The sentences of Promise 1 to Promise 20, each with tests of its own: both sides of every boundary it names. */
public final class PromisesTest {
    private static final String[] NO_VARIABLE = {"MIN", "-2147483647", "-4", "-1", "4", "5", "8", "256", "MAX"};
    private static final String[] NO_UNIT = {"MIN", "-8", "-1", "0", "9", "16", "257", "MAX"};
    private static final String[] NO_BYTE = {"MIN", "-256", "-255", "-1", "256", "257", "511", "65536", "MAX"};

    /** Calls that are refused in every state, one or more for each method that can refuse its arguments. */
    private static final String[] BAD_ARGUMENTS = {"literal(17, 0)", "literal(3, 8)", "field(4, 8, 0)",
        "field(0, 33, 0)", "field(0, 8, 4)", "field(0, 12, 2)", "sized(4, 0, 1)", "sized(0, 4, 1)", "sized(0, 0, 9)",
        "skip(4, 1)", "skip(0, 0)", "same(4, 0)", "same(0, 4)", "rest(4)", "feed(256)", "put(8, 0)", "put(0, 256)",
        "matchFrom(-1)"};
    private static final String[] APPENDS = {"literal(8, 1)", "field(1, 8, 1)", "sized(2, 2, 2)", "skip(1, 1)",
        "same(1, 2)", "rest(3)"};

    /** Tested before the limits, so answered in every state. */
    private static void badArgument(String call) {
        for (String state : States.ALL) {
            Calls.changesNothing(state, call + " = BAD_ARG");
        }
    }

    /** Taken as the first segment of a rule and as the third. */
    private static void taken(String call) {
        Calls.run(call + " = 1; segments() = 1");
        Calls.run(States.SOME + call + " = 3; segments() = 3");
    }

    private static void sixSegments(String call) {
        Calls.run(call + " = 1; " + call + " = 2; " + call + " = 3; " + call + " = 4; " + call + " = 5; " + call
            + " = 6; " + call + " = FULL; segments() = 6; scrap(); " + call + " = 1");
        Calls.run("5 x rest(0); " + call + " = 6; " + call + " = FULL; segments() = 6; end(); " + call + " = 1");
        Calls.changesNothing(States.SIX_IN_ONE, call + " = FULL");
    }

    private static void thirtySegments(String call) {
        String fourRules = "6 x rest(0); end(); ".repeat(4);
        Calls.run(fourRules + "5 x rest(0); " + call + " = 6; " + call + " = FULL; segments() = 6");
        Calls.run(fourRules + "5 x rest(0); end(); " + call + " = 1; " + call + " = FULL; segments() = 1");
        Calls.run(fourRules + "6 x rest(0); end(); " + call + " = FULL; segments() = 0; unend(); " + call + " = 1");
        Calls.run("5 x rest(0); end(); ".repeat(5) + "4 x rest(0); " + call + " = 5; " + call + " = FULL; "
            + "segments() = 5; scrap(); " + call + " = 1");
        for (String state : States.NO_SEGMENT_MORE) {
            Calls.changesNothing(state, call + " = FULL");
        }
    }

    /** Where the argument is wrong and a limit is reached, the argument counts. */
    private static void inThisOrder(String wrong, String call) {
        for (String state : States.NO_SEGMENT_MORE) {
            Calls.changesNothing(state, wrong + " = BAD_ARG; " + call + " = FULL; " + wrong + " = BAD_ARG");
        }
    }

    private static void asLiteral(String promise, String wrong, String call) {
        Calls.sentence(promise + ": Tested first; then as literal");
        inThisOrder(wrong, call);
        Calls.sentence(promise + ": then as literal: the rule being made has 6 segments answers FULL");
        sixSegments(call);
        Calls.sentence(promise + ": then as literal: all rules and the one being made have 30 together answers FULL");
        thirtySegments(call);
        Calls.sentence(promise + ": then as literal: otherwise the number of its segments afterwards");
        Calls.run("same(0, 0); " + call + " = 2; end(); " + call + " = 1; skip(0, 1); " + call + " = 3; "
            + "segments() = 3");
    }

    private static void newObject() {
        Calls.sentence("1: The buffer is empty");
        Calls.run("rest(0); end(); bound(0) = 0; put(0, 0) = BAD_ARG; feed(9) = 1");
        Calls.run("end(); match() = 0");
        Calls.run("8 x feed(1); feed(1) = FULL");
        Calls.sentence("1: there is no rule");
        Calls.run("rules() = 0; match() = NONE; matchFrom(0) = NONE; fitting() = 0; bound(0) = 0; boundBy(0, 0) = 0; "
            + "unend() = NONE; end() = 0");
        Calls.sentence("1: the rule being made has no segment");
        Calls.run("segments() = 0; rest(0) = 1");
        Calls.run("end(); feed(0); match() = NONE; empty(); match() = 0");
    }

    private static void literal() {
        Calls.sentence("2: Appends literal w v to the rule being made.");
        Calls.run("literal(4, 10) = 1; literal(8, 0x53) = 2; literal(4, 12) = 3; end() = 0; feed(0xA5); feed(0x3C); "
            + "match() = 0; put(1, 0x3D); match() = NONE");
        Calls.run("end(); literal(8, 5) = 1; match() = 0; feed(5); match() = NONE; end() = 1; match() = 1");
        Calls.sentence("2: w not 0 to 16 answers BAD_ARG");
        String[] noWidth = {"MIN", "-32", "-16", "-1", "17", "18", "31", "32", "33", "48", "64", "MAX"};
        for (String w : noWidth) {
            badArgument("literal(" + w + ", 0)");
            badArgument("literal(" + w + ", 1)");
        }
        for (int w = 0; w <= 16; w++) {
            taken("literal(" + w + ", 0)");
        }
        Calls.sentence("2: or v not 0 to 2 to the power w minus 1, answers BAD_ARG");
        for (int w = 0; w <= 16; w++) {
            badArgument("literal(" + w + ", -1)");
            badArgument("literal(" + w + ", " + (1 << w) + ")");
            taken("literal(" + w + ", " + ((1 << w) - 1) + ")");
        }
        badArgument("literal(16, MIN)");
        badArgument("literal(16, MAX)");
        badArgument("literal(0, MIN)");
        badArgument("literal(0, MAX)");
        badArgument("literal(4, 65535)");
        Calls.sentence("2: the rule being made has 6 segments answers FULL");
        sixSegments("literal(8, 255)");
        Calls.sentence("2: or all rules and the one being made have 30 together, answers FULL");
        thirtySegments("literal(8, 255)");
        Calls.sentence("2: Tested in this order");
        inThisOrder("literal(17, 0)", "literal(16, 0)");
        inThisOrder("literal(8, 256)", "literal(8, 255)");
        Calls.sentence("2: Otherwise the number of its segments afterwards.");
        Calls.run("rest(0); literal(0, 0) = 2; end(); literal(16, 65535) = 1; rest(0); rest(0); literal(1, 1) = 4; "
            + "segments() = 4");
    }

    private static void field() {
        Calls.sentence("3: Appends field x w s e, with flags = s + 2 e.");
        Calls.run("field(0, 16, 0); end(); field(0, 16, 1); end(); field(0, 16, 2); end(); field(0, 16, 3); end(); "
            + "feed(0x82); feed(0x81); boundBy(0, 0) = 0x8281; boundBy(1, 0) = -32127; boundBy(2, 0) = 0x8182; "
            + "boundBy(3, 0) = -32382");
        Calls.sentence("3: x not 0 to 3 answers BAD_ARG");
        for (String x : NO_VARIABLE) {
            badArgument("field(" + x + ", 8, 0)");
            badArgument("field(" + x + ", 32, 3)");
        }
        for (int x = 0; x <= 3; x++) {
            taken("field(" + x + ", 8, 0)");
            Calls.run("field(" + x + ", 8, 0); end(); feed(77); bound(" + x + ") = 77");
        }
        Calls.sentence("3: w not 0 to 32 answers BAD_ARG");
        String[] noWidth = {"MIN", "-32", "-8", "-1", "33", "34", "40", "64", "MAX"};
        for (String w : noWidth) {
            for (int flags = 0; flags <= 3; flags++) {
                badArgument("field(0, " + w + ", " + flags + ")");
            }
        }
        for (int w = 0; w <= 32; w++) {
            taken("field(3, " + w + ", 0)");
            taken("field(3, " + w + ", 1)");
        }
        Calls.sentence("3: flags not 0 to 3 answers BAD_ARG");
        String[] noFlags = {"MIN", "-4", "-2", "-1", "4", "5", "6", "8", "MAX"};
        for (String flags : noFlags) {
            badArgument("field(0, 8, " + flags + ")");
            badArgument("field(0, 7, " + flags + ")");
        }
        for (int flags = 0; flags <= 3; flags++) {
            taken("field(0, 8, " + flags + ")");
        }
        Calls.sentence("3: or flags 2 or 3 with w not 8, 16, 24 or 32, answers BAD_ARG");
        for (int w = 0; w <= 32; w++) {
            if (w == 8 || w == 16 || w == 24 || w == 32) {
                taken("field(1, " + w + ", 2)");
                taken("field(1, " + w + ", 3)");
            } else {
                badArgument("field(1, " + w + ", 2)");
                badArgument("field(1, " + w + ", 3)");
            }
        }
        Calls.sentence("3: Tested in this order");
        inThisOrder("field(4, 8, 3)", "field(0, 8, 3)");
        inThisOrder("field(0, 33, 0)", "field(0, 32, 0)");
        inThisOrder("field(0, 8, 4)", "field(0, 8, 3)");
        asLiteral("3", "field(0, 12, 2)", "field(0, 8, 3)");
    }

    private static void sized() {
        Calls.sentence("4: Appends sized x y u.");
        Calls.run("field(2, 4, 0); sized(1, 2, 3); rest(0); end() = 0; feed(0x2F); feed(0x80); match() = 0; "
            + "bound(1) = 62; bound(0) = 6");
        Calls.sentence("4: x or y not 0 to 3 answers BAD_ARG");
        for (String x : NO_VARIABLE) {
            badArgument("sized(" + x + ", 0, 1)");
            badArgument("sized(0, " + x + ", 1)");
            badArgument("sized(" + x + ", " + x + ", 8)");
        }
        for (int x = 0; x <= 3; x++) {
            for (int y = 0; y <= 3; y++) {
                taken("sized(" + x + ", " + y + ", 1)");
            }
        }
        Calls.sentence("4: or u not 1 to 8, answers BAD_ARG");
        for (String u : NO_UNIT) {
            badArgument("sized(3, 3, " + u + ")");
        }
        for (int u = 1; u <= 8; u++) {
            taken("sized(3, 3, " + u + ")");
        }
        asLiteral("4", "sized(0, 3, 9)", "sized(0, 3, 8)");
    }

    private static void skip() {
        Calls.sentence("5: Appends skip y u.");
        Calls.run("field(2, 4, 0); skip(2, 3); rest(0); end() = 0; feed(0x2F); feed(0x80); match() = 0; bound(0) = 6; "
            + "bound(2) = 2");
        Calls.sentence("5: y not 0 to 3 answers BAD_ARG");
        for (String y : NO_VARIABLE) {
            badArgument("skip(" + y + ", 1)");
            badArgument("skip(" + y + ", 8)");
        }
        for (int y = 0; y <= 3; y++) {
            taken("skip(" + y + ", 1)");
        }
        Calls.sentence("5: or u not 1 to 8 answers BAD_ARG");
        for (String u : NO_UNIT) {
            badArgument("skip(0, " + u + ")");
            badArgument("skip(3, " + u + ")");
        }
        for (int u = 1; u <= 8; u++) {
            taken("skip(3, " + u + ")");
        }
        asLiteral("5", "skip(3, 0)", "skip(3, 8)");
    }

    private static void same() {
        Calls.sentence("6: Appends same x y.");
        Calls.run("field(0, 4, 0); field(3, 4, 0); same(0, 3); end() = 0; feed(0x77); match() = 0; put(0, 0x78); "
            + "match() = NONE");
        Calls.sentence("6: x or y not 0 to 3 answers BAD_ARG");
        for (String x : NO_VARIABLE) {
            badArgument("same(" + x + ", 0)");
            badArgument("same(3, " + x + ")");
            badArgument("same(" + x + ", " + x + ")");
        }
        for (int x = 0; x <= 3; x++) {
            for (int y = 0; y <= 3; y++) {
                taken("same(" + x + ", " + y + ")");
            }
        }
        asLiteral("6", "same(0, 4)", "same(0, 3)");
    }

    private static void rest() {
        Calls.sentence("7: Appends rest x.");
        Calls.run("literal(3, 1); rest(2); end() = 0; feed(0x20); feed(1); match() = 0; bound(2) = 13");
        Calls.sentence("7: x not 0 to 3 answers BAD_ARG");
        for (String x : NO_VARIABLE) {
            badArgument("rest(" + x + ")");
        }
        for (int x = 0; x <= 3; x++) {
            taken("rest(" + x + ")");
        }
        asLiteral("7", "rest(4)", "rest(3)");
    }

    private static void segments() {
        Calls.sentence("8: The number of segments of the rule being made.");
        Calls.run("segments() = 0; literal(1, 1); segments() = 1; field(0, 1, 0); segments() = 2; sized(0, 1, 1); "
            + "segments() = 3; skip(0, 1); segments() = 4; same(0, 1); segments() = 5; rest(0); segments() = 6; "
            + "rest(0); segments() = 6; end(); segments() = 0; unend(); segments() = 0");
        Calls.run("5 x rest(0); end(); segments() = 0; rest(0); segments() = 1; unend(); segments() = 1; rest(4); "
            + "segments() = 1; feed(1); segments() = 1; empty(); segments() = 1; match(); segments() = 1; scrap(); "
            + "segments() = 0");
    }

    private static void scrap() {
        Calls.sentence("9: The segments of the rule being made are dropped.");
        for (int count = 0; count <= 6; count++) {
            Calls.run(count + " x literal(1, 1); scrap(); segments() = 0; scrap(); segments() = 0; rest(0) = 1; "
                + "segments() = 1; end(); feed(1); bound(0) = 8");
        }
        Calls.run("literal(8, 1); end(); literal(8, 2); rest(0); scrap(); rules() = 1; feed(1) = 1; match() = 0; "
            + "end() = 1; fitting() = 1; put(0, 2) = 1; fitting() = 0; empty(); fitting() = 2");
        Calls.run("6 x rest(0); end(); ".repeat(4) + "6 x rest(0); scrap(); 6 x rest(0); segments() = 6; end() = 4; "
            + "scrap(); rest(0) = FULL; rules() = 5");
        for (String state : States.NONE_MADE) {
            Calls.changesNothing(state, "scrap()");
        }
        for (int count = 0; count <= 6; count++) {
            String rules = "8 x feed(9); " + count + " x end(); ";
            Calls.changesNothing(rules, "literal(8, 1); scrap()");
            Calls.changesNothing(rules, "field(3, 8, 1); 5 x rest(2); scrap()");
        }
    }

    private static void end() {
        Calls.sentence("10: Ends the rule being made, which becomes the last rule");
        Calls.run("literal(8, 1); match() = NONE; feed(1); match() = NONE; end() = 0; match() = 0; rest(0); "
            + "fitting() = 1; end() = 1; fitting() = 3; matchFrom(1) = 1; boundBy(1, 0) = 8; unend() = 1; "
            + "fitting() = 1");
        for (int count = 0; count <= 6; count++) {
            Calls.run(count + " x literal(1, 1); end() = 0; match() = " + (count == 0 ? "0" : "NONE") + "; feed(255); "
                + "match() = NONE");
        }
        Calls.run("3 x literal(1, 1); end(); literal(8, 255); end(); feed(255); fitting() = 2");
        Calls.sentence("10: the next one has no segment yet");
        Calls.run("6 x literal(1, 1); end(); segments() = 0; rest(0) = 1; end() = 1; feed(0); match() = 1; "
            + "segments() = 0; end() = 2; matchFrom(2) = NONE; empty(); matchFrom(2) = 2");
        Calls.sentence("10: FULL if there are 6 rules.");
        Calls.run("5 x end(); end() = 5; end() = FULL; rules() = 6; unend() = 5; end() = 5; end() = FULL");
        Calls.run("6 x end(); rest(3) = 1; end() = FULL; segments() = 1; fitting() = 63; unend() = 5; segments() = 1; "
            + "end() = 5; feed(0); fitting() = 32; bound(3) = 8");
        for (String state : States.NO_RULE_MORE) {
            Calls.changesNothing(state, "end() = FULL");
        }
        Calls.sentence("10: Otherwise its number.");
        Calls.run("end() = 0; end() = 1; rest(0); end() = 2; end() = 3; 6 x rest(0); end() = 4; end() = 5; unend(); "
            + "unend(); end() = 4");
    }

    private static void unend() {
        Calls.sentence("11: Removes the last rule.");
        Calls.run("literal(8, 1); end(); rest(0); end(); feed(1); fitting() = 3; unend() = 1; fitting() = 1; "
            + "matchFrom(1) = NONE; boundBy(1, 0) = 0; rules() = 1; match() = 0; unend() = 0; fitting() = 0; "
            + "match() = NONE; rules() = 0; put(0, 2) = 1");
        Calls.run("rest(0); end(); field(2, 4, 0) = 1; unend() = 0; segments() = 1; field(1, 4, 0) = 2; end() = 0; "
            + "feed(0x56); bound(2) = 5; bound(1) = 6; bound(0) = 0; unend() = 0; segments() = 0");
        Calls.run("6 x rest(0); end(); ".repeat(5) + "rest(0) = FULL; unend() = 4; 6 x rest(0); segments() = 6; "
            + "rest(0) = FULL");
        String[] lastRules = {"", "literal(8, 1); ", "field(3, 8, 1); skip(3, 1); rest(2); ", "6 x rest(0); "};
        for (String last : lastRules) {
            String begin = "8 x feed(9); field(0, 8, 0); rest(1); end(); ";
            String made = "field(1, 4, 1); field(2, 4, 0); rest(0); ";
            Calls.alike(begin + last + "end(); " + made + "unend()", begin + made);
            Calls.alike(begin + last + "end(); unend(); " + made, begin + made);
            Calls.alike(made + "end(); " + last + "end(); 2 x unend()", States.NEW);
        }
        Calls.sentence("11: NONE if there is none.");
        Calls.run("unend() = NONE; end() = 0; unend() = 0; unend() = NONE; rules() = 0; end() = 0");
        Calls.changesNothing(States.NEW, "unend() = NONE");
        Calls.changesNothing(States.NO_RULE, "unend() = NONE");
        Calls.changesNothing("feed(1); rest(0); end(); unend(); field(1, 8, 1); ", "unend() = NONE");
        Calls.sentence("11: Otherwise the number it had.");
        Calls.run("6 x end(); unend() = 5; unend() = 4; unend() = 3; unend() = 2; unend() = 1; unend() = 0; "
            + "unend() = NONE");
    }

    private static void rules() {
        Calls.sentence("12: The number of rules.");
        Calls.run("rules() = 0; end(); rules() = 1; end(); rules() = 2; end(); rules() = 3; end(); rules() = 4; "
            + "end(); rules() = 5; end(); rules() = 6; end(); rules() = 6; unend(); rules() = 5; 5 x unend(); "
            + "rules() = 0; unend(); rules() = 0");
        Calls.run("rest(0); rules() = 0; feed(1); rules() = 0; end(); rules() = 1; empty(); scrap(); match(); "
            + "rules() = 1");
    }

    private static void feed() {
        Calls.sentence("13: Appends a byte to the buffer.");
        Calls.run("field(0, 8, 0); rest(1); end(); feed(9); bound(0) = 9; bound(1) = 0; feed(8); bound(0) = 9; "
            + "bound(1) = 8; put(1, 0) = 8");
        Calls.run("field(0, 32, 0); field(1, 32, 0); end(); feed(255); feed(0); feed(1); feed(2); feed(3); feed(4); "
            + "feed(5); feed(6); feed(7) = FULL; bound(0) = 0xFF000102; bound(1) = 0x03040506");
        Calls.sentence("13: b not 0 to 255 answers BAD_ARG");
        for (String b : NO_BYTE) {
            badArgument("feed(" + b + ")");
        }
        for (int b = 0; b <= 255; b++) {
            Calls.run("feed(" + b + ") = 1; put(0, 1) = " + b + "; 6 x feed(0); feed(" + b + ") = 8; put(7, 1) = " + b);
        }
        Calls.sentence("13: Tested in this order");
        for (String state : States.NO_BYTE_MORE) {
            Calls.changesNothing(state, "feed(256) = BAD_ARG; feed(255) = FULL; feed(-1) = BAD_ARG; feed(0) = FULL");
        }
        Calls.sentence("13: 8 bytes answers FULL");
        Calls.run("7 x feed(1); feed(2) = 8; feed(3) = FULL; feed(3) = FULL; put(7, 0) = 2; put(0, 0) = 1; "
            + "put(8, 0) = BAD_ARG");
        for (String state : States.NO_BYTE_MORE) {
            Calls.changesNothing(state, "feed(0) = FULL");
            Calls.changesNothing(state, "feed(255) = FULL");
        }
        Calls.sentence("13: Otherwise the number of bytes.");
        Calls.run("feed(0) = 1; feed(0) = 2; feed(0) = 3; feed(0) = 4; feed(0) = 5; feed(0) = 6; feed(0) = 7; "
            + "feed(0) = 8; empty(); feed(0) = 1");
    }

    private static void put() {
        Calls.sentence("14: Byte i becomes b");
        for (int i = 0; i < 8; i++) {
            String calls = "8 x feed(255); field(0, 32, 0); field(1, 32, 0); end(); put(" + i + ", 0); ";
            Calls.run(calls + "bound(0) = " + (i < 4 ? ~(255 << 24 - 8 * i) : -1) + "; bound(1) = "
                + (i < 4 ? -1 : ~(255 << 56 - 8 * i)));
        }
        for (String state : States.NO_BYTE_MORE) {
            Calls.changesNothing(state, "put(0, 5) = 0xA1; put(0, 0xA1) = 5");
            Calls.changesNothing(state, "put(1, 255) = 7; put(7, 2) = 1; put(1, 7) = 255; put(7, 1) = 2");
        }
        Calls.sentence("14: BAD_ARG if there is no byte i");
        String[] noPlace = {"MIN", "-8", "-1", "8", "9", "16", "256", "MAX"};
        for (String i : noPlace) {
            badArgument("put(" + i + ", 0)");
            badArgument("put(" + i + ", 255)");
        }
        for (int count = 0; count <= 8; count++) {
            for (int i = 0; i < 8; i++) {
                String due = i < count ? "1" : "BAD_ARG";
                Calls.run(count + " x feed(1); put(" + i + ", 0) = " + due);
                if (i >= count) {
                    Calls.changesNothing(count + " x feed(1); ", "put(" + i + ", 0) = " + due);
                }
            }
        }
        Calls.run("8 x feed(1); empty(); put(0, 0) = BAD_ARG; feed(2); put(1, 0) = BAD_ARG; put(0, 0) = 2");
        Calls.sentence("14: or b is not 0 to 255");
        for (String b : NO_BYTE) {
            badArgument("put(0, " + b + ")");
            badArgument("put(3, " + b + ")");
            badArgument("put(8, " + b + ")");
        }
        Calls.sentence("14: Otherwise the byte before.");
        for (int b = 0; b <= 255; b++) {
            Calls.run("feed(7); feed(" + b + "); put(1, " + (255 - b) + ") = " + b + "; put(1, " + b + ") = "
                + (255 - b) + "; put(1, " + b + ") = " + b + "; put(0, " + b + ") = 7");
        }
    }

    private static void empty() {
        Calls.sentence("15: Empties the buffer.");
        for (int count = 0; count <= 8; count++) {
            Calls.run("end(); rest(1); end(); " + count + " x feed(9); empty(); fitting() = 3; boundBy(1, 1) = 0; "
                + "put(0, 0) = BAD_ARG; empty(); feed(8) = 1; boundBy(1, 1) = 8; put(0, 7) = 8");
        }
        for (int count = 0; count <= 6; count++) {
            String rules = "field(3, 8, 1); rest(2); end(); ".repeat(count);
            Calls.changesNothing(rules, "empty()");
            Calls.changesNothing(rules + "field(1, 4, 0); field(2, 4, 1); ", "3 x feed(9); empty()");
            Calls.changesNothing(rules + "literal(1, 1); rest(0); ", "8 x feed(9); empty()");
        }
    }

    /** Rule k fits if bit k of the only byte is 1, and binds variable 1 to k + 1 bits less than there are. */
    private static String sixBitRules(int set) {
        String calls = "";
        int bits = 0;
        for (int k = 0; k < 6; k++) {
            calls += "field(0, " + k + ", 0); literal(1, 1); rest(1); end(); ";
            bits |= (set >> k & 1) << 7 - k;
        }
        return calls + "feed(" + bits + "); ";
    }

    /** The least rule of the set that is from or greater, as the document's word for it. */
    private static String least(int set, int from) {
        for (int k = from; k < 6; k++) {
            if ((set >> k & 1) == 1) {
                return "" + k;
            }
        }
        return "NONE";
    }

    private static void match() {
        Calls.sentence("16: The least number of a rule that fits the buffer");
        for (int set = 1; set < 64; set++) {
            Calls.run(sixBitRules(set) + "match() = " + least(set, 0) + "; match() = " + least(set, 0));
        }
        Calls.run("feed(1); rest(0); match() = NONE; end(); match() = 0");
        Calls.sentence("16: NONE if none fits.");
        Calls.run("match() = NONE; feed(1); match() = NONE; end(); match() = NONE; rest(0); match() = NONE");
        Calls.run(sixBitRules(0) + "match() = NONE; empty(); match() = NONE");
        Calls.changesNothing(States.NEW, "match() = NONE");
        Calls.changesNothing(sixBitRules(0) + "literal(8, 1); ", "match() = NONE");
    }

    private static void matchFrom() {
        Calls.sentence("17: The least number k or greater of a rule that fits the buffer");
        for (int set = 0; set < 64; set++) {
            String calls = sixBitRules(set);
            for (int k = 0; k <= 6; k++) {
                calls += "matchFrom(" + k + ") = " + least(set, k) + "; ";
            }
            Calls.run(calls);
        }
        Calls.sentence("17: NONE if there is none");
        Calls.run("matchFrom(0) = NONE; matchFrom(MAX) = NONE; end(); matchFrom(0) = 0; matchFrom(1) = NONE; rest(0); "
            + "matchFrom(1) = NONE");
        Calls.run("6 x end(); matchFrom(5) = 5; matchFrom(6) = NONE; matchFrom(7) = NONE; matchFrom(MAX) = NONE; "
            + "unend(); matchFrom(5) = NONE");
        Calls.run(States.SIX_RULES + "matchFrom(6) = NONE; empty(); matchFrom(6) = NONE");
        for (String state : States.ALL) {
            Calls.changesNothing(state, "matchFrom(6) = NONE");
            Calls.changesNothing(state, "matchFrom(7) = NONE");
            Calls.changesNothing(state, "matchFrom(MAX) = NONE");
        }
        Calls.sentence("17: BAD_ARG if k < 0.");
        badArgument("matchFrom(-1)");
        badArgument("matchFrom(-2)");
        badArgument("matchFrom(-6)");
        badArgument("matchFrom(MIN)");
        Calls.run("end(); matchFrom(-1) = BAD_ARG; matchFrom(0) = 0");
    }

    private static void bound() {
        Calls.sentence("18: The value of variable x after the rule match() has been matched");
        for (int set = 1; set < 64; set++) {
            int k = Integer.parseInt(least(set, 0));
            Calls.run(sixBitRules(set) + "bound(1) = " + (7 - k) + "; bound(0) = 0; bound(2) = 0; bound(3) = 0; "
                + "bound(1) = " + (7 - k));
        }
        Calls.run("field(0, 8, 0); literal(8, 1); end(); rest(1); end(); feed(9); bound(0) = 0; bound(1) = 8; "
            + "boundBy(0, 0) = 0; bound(1) = 8; feed(1); bound(0) = 9; bound(1) = 0; boundBy(1, 1) = 16; "
            + "bound(1) = 0; bound(0) = 9");
        Calls.run("rest(0); rest(1); end(); field(0, 32, 0); end(); feed(1); feed(2); feed(3); feed(4); "
            + "bound(0) = 32; bound(1) = 0");
        Calls.sentence("18: 0 if none fits");
        Calls.run("bound(0) = 0; bound(1) = 0; bound(2) = 0; bound(3) = 0");
        Calls.run("field(0, 8, 0); field(1, 8, 0); field(2, 8, 0); field(3, 8, 0); literal(1, 1); end(); feed(9); "
            + "feed(9); feed(9); feed(9); bound(0) = 0; bound(1) = 0; bound(2) = 0; bound(3) = 0");
        Calls.run("field(0, 8, 0); end(); feed(9); bound(0) = 9; feed(9); bound(0) = 0; empty(); bound(0) = 0; "
            + "feed(9); bound(0) = 9; unend(); bound(0) = 0");
        Calls.sentence("18: 0 if x is not 0 to 3");
        for (String x : NO_VARIABLE) {
            Calls.run("4 x feed(9); field(0, 8, 0); field(1, 8, 0); field(2, 8, 0); field(3, 8, 0); end(); bound("
                + x + ") = 0; bound(0) = 9; bound(3) = 9");
            for (String state : States.ALL) {
                Calls.changesNothing(state, "bound(" + x + ") = 0");
            }
        }
    }

    private static void boundBy() {
        Calls.sentence("19: The value of variable x after rule k has been matched, if it fits");
        for (int set = 0; set < 64; set++) {
            String calls = sixBitRules(set);
            for (int k = 5; k >= 0; k--) {
                calls += "boundBy(" + k + ", 1) = " + ((set >> k & 1) == 1 ? 7 - k : 0) + "; boundBy(" + k
                    + ", 2) = 0; ";
            }
            Calls.run(calls);
        }
        Calls.run("field(0, 8, 0); field(1, 8, 0); end(); field(1, 8, 0); field(2, 8, 0); end(); feed(9); feed(8); "
            + "boundBy(0, 0) = 9; boundBy(1, 0) = 0; boundBy(0, 1) = 8; boundBy(1, 1) = 9; boundBy(0, 2) = 0; "
            + "boundBy(1, 2) = 8; boundBy(0, 3) = 0");
        Calls.sentence("19: else 0");
        Calls.run("field(0, 8, 0); end(); field(0, 8, 0); literal(1, 1); end(); field(0, 8, 0); same(0, 1); end(); "
            + "feed(9); boundBy(0, 0) = 9; boundBy(1, 0) = 0; boundBy(2, 0) = 0; feed(9); boundBy(0, 0) = 0; empty(); "
            + "boundBy(0, 0) = 0");
        Calls.sentence("19: (also if there is no rule k");
        String[] noRule = {"MIN", "-6", "-1", "6", "7", "8", "42", "MAX"};
        for (String k : noRule) {
            for (String state : States.ALL) {
                Calls.changesNothing(state, "boundBy(" + k + ", 0) = 0");
                Calls.changesNothing(state, "boundBy(" + k + ", 2) = 0");
            }
        }
        Calls.run("feed(1); rest(0); boundBy(0, 0) = 0; end(); boundBy(0, 0) = 8; rest(0); boundBy(1, 0) = 0; "
            + "boundBy(6, 0) = 0; end(); boundBy(1, 0) = 8; unend(); boundBy(1, 0) = 0; boundBy(0, 0) = 8");
        Calls.run("feed(1); 5 x end(); rest(0); end(); boundBy(5, 0) = 8; rest(0); boundBy(6, 0) = 0");
        Calls.sentence("19: or x is not 0 to 3)");
        for (String x : NO_VARIABLE) {
            Calls.run("4 x feed(9); field(0, 8, 0); field(1, 8, 0); field(2, 8, 0); field(3, 8, 0); end(); "
                + "boundBy(0, " + x + ") = 0; boundBy(0, 0) = 9; boundBy(0, 3) = 9; boundBy(-1, " + x + ") = 0; "
                + "boundBy(6, " + x + ") = 0");
            for (String state : States.ALL) {
                Calls.changesNothing(state, "boundBy(0, " + x + ") = 0");
            }
        }
    }

    private static void fitting() {
        Calls.sentence("20: The set of the rules that fit, as the sum of 2 to the power k.");
        for (int set = 0; set < 64; set++) {
            Calls.run(sixBitRules(set) + "fitting() = " + set + "; fitting() = " + set + "; unend(); fitting() = "
                + (set & 31) + "; rest(0); fitting() = " + (set & 31) + "; end(); fitting() = " + (set & 31 | 32));
        }
        Calls.run("fitting() = 0; rest(0); fitting() = 0; end(); fitting() = 1; end(); fitting() = 3; feed(0); "
            + "fitting() = 1");
    }

    private static void refusedCalls() {
        Calls.sentence("A refused call answers the code named and changes nothing.");
        for (String first : BAD_ARGUMENTS) {
            for (String second : BAD_ARGUMENTS) {
                Calls.changesNothing(States.SOME, first + " = BAD_ARG; " + second + " = BAD_ARG");
            }
        }
        for (String state : States.NO_SEGMENT_MORE) {
            for (String first : APPENDS) {
                for (String second : APPENDS) {
                    Calls.changesNothing(state, first + " = FULL; " + second + " = FULL");
                }
            }
        }
        Calls.changesNothing(States.SIX_RULES, "end() = FULL; feed(7) = FULL; end() = FULL; feed(8) = FULL");
        Calls.changesNothing(States.THIRTY_IN_SIX, "end() = FULL; rest(0) = FULL; feed(7) = FULL; end() = FULL");
        Calls.changesNothing("feed(1); rest(0); ", "unend() = NONE; match() = NONE; matchFrom(0) = NONE; "
            + "unend() = NONE");
    }

    /** As often as the 512 calls leave room for the calls that look for a change. */
    private static void refusedOften(String state, String call) {
        Calls.changesNothing(state, "240 x " + call);
    }

    private static void callsRefusedOften() {
        Calls.sentence("A refused call changes nothing, however often it is made.");
        for (String state : States.ALL) {
            for (String call : BAD_ARGUMENTS) {
                refusedOften(state, call + " = BAD_ARG");
            }
            refusedOften(state, "matchFrom(6) = NONE");
        }
        for (String state : States.NO_SEGMENT_MORE) {
            for (String call : APPENDS) {
                refusedOften(state, call + " = FULL");
            }
        }
        for (String state : States.NO_RULE_MORE) {
            refusedOften(state, "end() = FULL");
        }
        for (String state : States.NO_BYTE_MORE) {
            refusedOften(state, "feed(7) = FULL");
        }
        refusedOften(States.NEW, "unend() = NONE");
        refusedOften(States.NO_RULE, "unend() = NONE");
        refusedOften(States.NO_RULE, "match() = NONE");
    }

    private static void askingCalls() {
        Calls.sentence("Nothing is promised beyond the answers and state changes described above");
        String[] asks = {"segments()", "rules()", "match()", "matchFrom(0)", "matchFrom(1)", "bound(0)", "bound(3)",
            "boundBy(0, 2)", "boundBy(1, 2)", "boundBy(5, 0)", "fitting()"};
        for (String state : States.ALL) {
            for (String ask : asks) {
                Calls.changesNothing(state, ask);
                Calls.changesNothing(state, "240 x " + ask);
            }
        }
    }

    public static void main(String[] args) {
        newObject();
        literal();
        field();
        sized();
        skip();
        same();
        rest();
        segments();
        scrap();
        end();
        unend();
        rules();
        feed();
        put();
        empty();
        match();
        matchFrom();
        bound();
        boundBy();
        fitting();
        refusedCalls();
        callsRefusedOften();
        askingCalls();
        Calls.finish();
    }
}
