import java.math.BigInteger;
import java.util.ArrayList;
import java.util.List;

/**
 * Long runs of calls, each answered by the class and by a second, slow reading of the document that works on texts of
 * bits. The runs are the same each time: their numbers come from a fixed recurrence.
 */
public final class ModelTest {
    private static final int RUNS = 4000;
    private static final int CALLS = 512;

    private static long seed = 20261115L;
    private static int wrong = 0;
    private static int fits = 0;

    /** One segment: its name and the arguments it was appended with. */
    private record Segment(String name, int a, int b, int c) {
    }

    /** What a rule has come to: the bits not used up and the variables. */
    private static final class State {
        private String left;
        private final int[] variables = new int[4];

        private State(String left) {
            this.left = left;
        }

        private String take(int w) {
            String taken = left.substring(0, w);
            left = left.substring(w);
            return taken;
        }
    }

    private static final class Model {
        private final List<Integer> buffer = new ArrayList<>();
        private final List<List<Segment>> rules = new ArrayList<>();
        private List<Segment> making = new ArrayList<>();

        private int append(boolean argumentsHold, Segment segment) {
            if (!argumentsHold) {
                return -1;
            }
            int all = making.size();
            for (List<Segment> rule : rules) {
                all += rule.size();
            }
            if (making.size() == 6 || all == 30) {
                return -2;
            }
            making.add(segment);
            return making.size();
        }

        private int end() {
            if (rules.size() == 6) {
                return -2;
            }
            rules.add(making);
            making = new ArrayList<>();
            return rules.size() - 1;
        }

        private int unend() {
            if (rules.isEmpty()) {
                return -4;
            }
            rules.remove(rules.size() - 1);
            return rules.size();
        }

        private int feed(int b) {
            if (!in(b, 0, 255)) {
                return -1;
            }
            if (buffer.size() == 8) {
                return -2;
            }
            buffer.add(b);
            return buffer.size();
        }

        private int put(int i, int b) {
            return in(i, 0, buffer.size() - 1) && in(b, 0, 255) ? buffer.set(i, b) : -1;
        }

        private String bits() {
            StringBuilder text = new StringBuilder();
            for (int b : buffer) {
                text.append(Integer.toBinaryString(256 + b).substring(1));
            }
            return text.toString();
        }

        /** The variables if rule k fits, else null. */
        private int[] variablesBy(int k) {
            if (!in(k, 0, rules.size() - 1)) {
                return null;
            }
            State state = new State(bits());
            for (Segment segment : rules.get(k)) {
                if (!segmentFits(segment, state)) {
                    return null;
                }
            }
            return state.left.isEmpty() ? state.variables : null;
        }

        private int matchFrom(int k) {
            if (k < 0) {
                return -1;
            }
            for (int n = 0; n < rules.size(); n++) {
                if (n >= k && variablesBy(n) != null) {
                    return n;
                }
            }
            return -4;
        }

        private int boundBy(int k, int x) {
            int[] variables = variablesBy(k);
            return variables != null && in(x, 0, 3) ? variables[x] : 0;
        }

        private int fitting() {
            int set = 0;
            for (int n = 0; n < rules.size(); n++) {
                set += variablesBy(n) != null ? (int) Math.pow(2, n) : 0;
            }
            return set;
        }
    }

    private static boolean in(int value, int least, int greatest) {
        return least <= value && value <= greatest;
    }

    private static BigInteger number(String bits) {
        return bits.isEmpty() ? BigInteger.ZERO : new BigInteger(bits, 2);
    }

    private static int fieldNumber(String bits, int flags) {
        String ordered = bits;
        if (flags >= 2) {
            ordered = "";
            for (int n = 0; n < bits.length(); n += 8) {
                ordered = bits.substring(n, n + 8) + ordered;
            }
        }
        BigInteger value = number(ordered);
        if (flags % 2 == 1 && ordered.startsWith("1")) {
            value = value.subtract(BigInteger.TWO.pow(ordered.length()));
        }
        return value.intValue();
    }

    private static int product(int value, int u) {
        return BigInteger.valueOf(value).multiply(BigInteger.valueOf(u)).intValue();
    }

    private static boolean segmentFits(Segment s, State state) {
        int left = state.left.length();
        int[] variables = state.variables;
        switch (s.name()) {
            case "literal":
                return s.a() <= left && number(state.take(s.a())).equals(BigInteger.valueOf(s.b()));
            case "field":
                if (s.b() > left) {
                    return false;
                }
                variables[s.a()] = fieldNumber(state.take(s.b()), s.c());
                return true;
            case "sized":
                int width = product(variables[s.b()], s.c());
                if (!in(width, 0, 32) || width > left) {
                    return false;
                }
                variables[s.a()] = fieldNumber(state.take(width), 0);
                return true;
            case "skip":
                int skipped = product(variables[s.a()], s.b());
                if (!in(skipped, 0, left)) {
                    return false;
                }
                state.take(skipped);
                return true;
            case "same":
                return variables[s.a()] == variables[s.b()];
            default:
                variables[s.a()] = left;
                state.take(left);
                return true;
        }
    }

    private static int below(int bound) {
        seed = seed * 6364136223846793005L + 1442695040888963407L;
        return (int) ((seed >>> 33) % bound);
    }

    /** Mostly from least to greatest, now and then just outside or far outside. */
    private static int about(int least, int greatest) {
        int turn = below(60);
        if (turn == 0) {
            return least - 1;
        }
        if (turn == 1) {
            return greatest + 1;
        }
        if (turn == 2) {
            return below(2) == 0 ? Integer.MIN_VALUE : Integer.MAX_VALUE;
        }
        return least + below(greatest - least + 1);
    }

    /** Small bytes make widths that fit; the others bring high bits. */
    private static int aByte() {
        int turn = below(4);
        return turn == 0 ? about(0, 255) : turn == 1 ? 32 * below(8) : below(5);
    }

    private static int aFieldWidth(int flags) {
        if (flags >= 2 || below(3) != 0) {
            return below(12) == 0 ? about(0, 32) : 8 * (1 + below(4));
        }
        return below(2) == 0 ? about(0, 32) : below(9);
    }

    private static void due(int run, int call, String what, int got, int want) {
        if (got != want) {
            wrong++;
            if (wrong <= 20) {
                System.out.println("run " + run + ", call " + call + ": " + what + " answered " + got + ", due is "
                    + want);
            }
        }
    }

    private static void appendOne(int run, int call, BitSyntaxMatch m, Model model) {
        int x = about(0, 3);
        int y = about(0, 3);
        int u = about(1, 8);
        boolean variablesHold = in(x, 0, 3) && in(y, 0, 3);
        switch (below(6)) {
            case 0:
                int w = below(3) == 0 ? about(0, 16) : below(5);
                int v = below(2) == 0 ? 0 : about(0, in(w, 1, 16) ? (1 << w) - 1 : 1);
                boolean holds = in(w, 0, 16) && v >= 0 && BigInteger.valueOf(v).bitLength() <= w;
                due(run, call, "literal(" + w + ", " + v + ")", m.literal(w, v),
                    model.append(holds, new Segment("literal", w, v, 0)));
                break;
            case 1:
                int flags = about(0, 3);
                int width = aFieldWidth(flags);
                boolean fine = in(x, 0, 3) && in(width, 0, 32) && in(flags, 0, 3)
                    && (flags < 2 || width == 8 || width == 16 || width == 24 || width == 32);
                due(run, call, "field(" + x + ", " + width + ", " + flags + ")", m.field(x, width, flags),
                    model.append(fine, new Segment("field", x, width, flags)));
                break;
            case 2:
                due(run, call, "sized(" + x + ", " + y + ", " + u + ")", m.sized(x, y, u),
                    model.append(variablesHold && in(u, 1, 8), new Segment("sized", x, y, u)));
                break;
            case 3:
                due(run, call, "skip(" + y + ", " + u + ")", m.skip(y, u),
                    model.append(in(y, 0, 3) && in(u, 1, 8), new Segment("skip", y, u, 0)));
                break;
            case 4:
                due(run, call, "same(" + x + ", " + y + ")", m.same(x, y),
                    model.append(variablesHold, new Segment("same", x, y, 0)));
                break;
            default:
                due(run, call, "rest(" + x + ")", m.rest(x),
                    model.append(in(x, 0, 3), new Segment("rest", x, 0, 0)));
        }
    }

    private static void changeRules(int run, int call, BitSyntaxMatch m, Model model) {
        int turn = below(12);
        if (turn < 7) {
            due(run, call, "end()", m.end(), model.end());
        } else if (turn < 11) {
            due(run, call, "unend()", m.unend(), model.unend());
        } else {
            m.scrap();
            model.making.clear();
        }
    }

    private static void changeBuffer(int run, int call, BitSyntaxMatch m, Model model) {
        int b = aByte();
        int turn = below(16);
        if (turn < 8) {
            due(run, call, "feed(" + b + ")", m.feed(b), model.feed(b));
        } else if (turn < 15) {
            int i = about(0, 4);
            due(run, call, "put(" + i + ", " + b + ")", m.put(i, b), model.put(i, b));
        } else {
            m.empty();
            model.buffer.clear();
        }
    }

    private static void ask(int run, int call, BitSyntaxMatch m, Model model) {
        int k = about(0, 5);
        int x = about(0, 3);
        int matched = model.matchFrom(0);
        fits += matched >= 0 ? 1 : 0;
        switch (below(7)) {
            case 0:
                due(run, call, "match()", m.match(), matched);
                break;
            case 1:
                due(run, call, "matchFrom(" + k + ")", m.matchFrom(k), model.matchFrom(k));
                break;
            case 2:
                due(run, call, "bound(" + x + ")", m.bound(x), model.boundBy(matched, x));
                break;
            case 3:
                due(run, call, "boundBy(" + k + ", " + x + ")", m.boundBy(k, x), model.boundBy(k, x));
                break;
            case 4:
                due(run, call, "fitting()", m.fitting(), model.fitting());
                break;
            case 5:
                due(run, call, "segments()", m.segments(), model.making.size());
                break;
            default:
                due(run, call, "rules()", m.rules(), model.rules.size());
        }
    }

    private static void run(int run) {
        BitSyntaxMatch m = new BitSyntaxMatch();
        Model model = new Model();
        for (int call = 1; call <= CALLS; call++) {
            int turn = below(20);
            if (turn < 5) {
                appendOne(run, call, m, model);
            } else if (turn < 7) {
                changeRules(run, call, m, model);
            } else if (turn < 10) {
                changeBuffer(run, call, m, model);
            } else {
                ask(run, call, m, model);
            }
        }
    }

    public static void main(String[] args) {
        for (int run = 1; run <= RUNS && wrong == 0; run++) {
            run(run);
        }
        if (wrong == 0 && fits < RUNS) {
            wrong++;
            System.out.println("the runs are too poor: a rule fitted at only " + fits + " questions");
        }
        System.out.println(wrong == 0 ? "all answers are as due, a rule fitting at " + fits + " questions"
            : wrong + " answers are not as due");
        if (wrong != 0) {
            System.exit(1);
        }
    }
}
