import java.math.BigInteger;
import java.util.ArrayList;
import java.util.List;

/** A second, slow reading of the document, which works on texts of bits. A segment is the call that appended it. */
final class Model {
    private static final int BAD_ARG = -1;
    private static final int FULL = -2;
    private static final int NONE = -4;

    private final List<Integer> buffer = new ArrayList<>();
    private final List<List<Call>> rules = new ArrayList<>();
    private List<Call> making = new ArrayList<>();

    /** What a rule has come to: the bits not used up and the variables. */
    private static final class Matching {
        private String left;
        private final int[] variables = new int[4];

        private Matching(String left) {
            this.left = left;
        }

        private String take(int w) {
            String taken = left.substring(0, w);
            left = left.substring(w);
            return taken;
        }
    }

    /** What is due; 0 where the call answers nothing. */
    int answer(Call call) {
        int[] a = call.arguments();
        switch (call.name()) {
            case "segments":
                return making.size();
            case "scrap":
                making.clear();
                return 0;
            case "end":
                return end();
            case "unend":
                return unend();
            case "rules":
                return rules.size();
            case "feed":
                return feed(a[0]);
            case "put":
                return in(a[0], 0, buffer.size() - 1) && in(a[1], 0, 255) ? buffer.set(a[0], a[1]) : BAD_ARG;
            case "empty":
                buffer.clear();
                return 0;
            case "match":
                return matchFrom(0);
            case "matchFrom":
                return a[0] < 0 ? BAD_ARG : matchFrom(a[0]);
            case "bound":
                return boundBy(matchFrom(0), a[0]);
            case "boundBy":
                return boundBy(a[0], a[1]);
            case "fitting":
                return fitting();
            default:
                return append(call);
        }
    }

    private static boolean in(int value, int least, int greatest) {
        return least <= value && value <= greatest;
    }

    private static boolean argumentsHold(Call call) {
        int[] a = call.arguments();
        switch (call.name()) {
            case "literal":
                return in(a[0], 0, 16) && a[1] >= 0 && BigInteger.valueOf(a[1]).bitLength() <= a[0];
            case "field":
                boolean wholeBytes = List.of(8, 16, 24, 32).contains(a[1]);
                return in(a[0], 0, 3) && in(a[1], 0, 32) && in(a[2], 0, 3) && (a[2] < 2 || wholeBytes);
            case "sized":
                return in(a[0], 0, 3) && in(a[1], 0, 3) && in(a[2], 1, 8);
            case "skip":
                return in(a[0], 0, 3) && in(a[1], 1, 8);
            case "same":
                return in(a[0], 0, 3) && in(a[1], 0, 3);
            case "rest":
                return in(a[0], 0, 3);
            default:
                throw new IllegalArgumentException("no call " + call.text());
        }
    }

    private int append(Call call) {
        if (!argumentsHold(call)) {
            return BAD_ARG;
        }
        int all = making.size();
        for (List<Call> rule : rules) {
            all += rule.size();
        }
        if (making.size() == 6 || all == 30) {
            return FULL;
        }
        making.add(call);
        return making.size();
    }

    private int end() {
        if (rules.size() == 6) {
            return FULL;
        }
        rules.add(making);
        making = new ArrayList<>();
        return rules.size() - 1;
    }

    private int unend() {
        if (rules.isEmpty()) {
            return NONE;
        }
        rules.remove(rules.size() - 1);
        return rules.size();
    }

    private int feed(int b) {
        if (!in(b, 0, 255)) {
            return BAD_ARG;
        }
        if (buffer.size() == 8) {
            return FULL;
        }
        buffer.add(b);
        return buffer.size();
    }

    private int matchFrom(int k) {
        for (int n = 0; n < rules.size(); n++) {
            if (n >= k && variablesBy(n) != null) {
                return n;
            }
        }
        return NONE;
    }

    private int boundBy(int k, int x) {
        int[] variables = variablesBy(k);
        return variables != null && in(x, 0, 3) ? variables[x] : 0;
    }

    private int fitting() {
        int set = 0;
        for (int n = 0; n < rules.size(); n++) {
            set += variablesBy(n) != null ? (int) Math.pow(2, n) : 0;
        }
        return set;
    }

    /** The variables if rule k fits, else null. */
    private int[] variablesBy(int k) {
        if (!in(k, 0, rules.size() - 1)) {
            return null;
        }
        Matching matching = new Matching(bits());
        for (Call segment : rules.get(k)) {
            if (!fits(segment, matching)) {
                return null;
            }
        }
        return matching.left.isEmpty() ? matching.variables : null;
    }

    private String bits() {
        StringBuilder text = new StringBuilder();
        for (int b : buffer) {
            text.append(Integer.toBinaryString(256 + b).substring(1));
        }
        return text.toString();
    }

    private static boolean fits(Call segment, Matching matching) {
        int left = matching.left.length();
        int[] variables = matching.variables;
        int[] a = segment.arguments();
        switch (segment.name()) {
            case "literal":
                return a[0] <= left && number(matching.take(a[0])).equals(BigInteger.valueOf(a[1]));
            case "field":
                if (a[1] > left) {
                    return false;
                }
                variables[a[0]] = fieldNumber(matching.take(a[1]), a[2]);
                return true;
            case "sized":
                int width = product(variables[a[1]], a[2]);
                if (!in(width, 0, 32) || width > left) {
                    return false;
                }
                variables[a[0]] = fieldNumber(matching.take(width), 0);
                return true;
            case "skip":
                int skipped = product(variables[a[0]], a[1]);
                if (!in(skipped, 0, left)) {
                    return false;
                }
                matching.take(skipped);
                return true;
            case "same":
                return variables[a[0]] == variables[a[1]];
            default:
                variables[a[0]] = left;
                matching.take(left);
                return true;
        }
    }

    private static BigInteger number(String bits) {
        return bits.isEmpty() ? BigInteger.ZERO : new BigInteger(bits, 2);
    }

    private static int fieldNumber(String bits, int flags) {
        String ordered = bits;
        if (flags >= 2) {
            ordered = "";
            for (int n = 0; n < bits.length(); n += 8) {
                ordered = bits.substring(n, n + 8) + ordered;
            }
        }
        BigInteger value = number(ordered);
        if (flags % 2 == 1 && ordered.startsWith("1")) {
            value = value.subtract(BigInteger.TWO.pow(ordered.length()));
        }
        return value.intValue();
    }

    private static int product(int value, int u) {
        return BigInteger.valueOf(value).multiply(BigInteger.valueOf(u)).intValue();
    }
}
