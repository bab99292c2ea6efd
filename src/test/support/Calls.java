import java.util.ArrayList;
import java.util.Arrays;
import java.util.List;
import java.util.regex.Matcher;
import java.util.regex.Pattern;

/**
 * Tests written as texts of calls on a new object, such as "2 x feed(0); feed(256) = BAD_ARG": a number and an x before
 * a call repeat it, and what stands behind "=" is the answer that is due; without it any answer will do.
 */
final class Calls {
    private static final Pattern CALL = Pattern.compile("(?:(\\d+) x )?(\\w+)\\(([^()]*)\\)(?: = (\\S+))?");
    /** What the document says of an object holds for so many calls. */
    private static final int MOST_CALLS = 512;
    private static final int RANDOM_PROBES = 4;
    private static final int MOST_PRINTED = 40;
    private static final List<List<Call>> PROBES = probes();

    private static String sentence = "";
    private static int sentences = 0;
    private static int compared = 0;
    private static int wrong = 0;

    /** A call and its answer, null if any will do. */
    private record Row(Call call, Integer due) {
    }

    private Calls() {
    }

    /** The tests that follow are those of this sentence of the document. */
    static void sentence(String words) {
        closeSentence();
        sentence = words;
        sentences++;
        compared = 0;
    }

    private static void closeSentence() {
        if (sentences > 0 && compared == 0) {
            report("no answer was compared");
        }
    }

    static void finish() {
        closeSentence();
        String found = wrong == 0 ? "all answers are as due" : wrong + " faults";
        System.out.println("sentences: " + sentences + ", " + found);
        if (wrong != 0) {
            System.exit(1);
        }
    }

    /** Runs the calls on a new object and compares every answer that is due. */
    static void run(String text) {
        List<Row> rows = rows(text);
        int[] answers = answers(calls(rows));
        for (int n = 0; n < answers.length; n++) {
            compare(rows, n, answers[n]);
        }
    }

    /** The calls answer what is due behind those before, and the object then answers as if they had not been. */
    static void changesNothing(String before, String calls) {
        run(before + "; " + calls);
        alike(before + "; " + calls, before);
    }

    /** The two texts of calls leave objects that answer later calls alike. */
    static void alike(String some, String others) {
        List<Call> first = calls(rows(some));
        List<Call> second = calls(rows(others));
        int most = MOST_CALLS - Math.max(first.size(), second.size());
        compared++;
        for (List<Call> probe : PROBES) {
            List<Call> later = probe.subList(0, Math.min(most, probe.size()));
            int[] got = answersBehind(first, later);
            int[] due = answersBehind(second, later);
            int n = Arrays.mismatch(got, due);
            if (n >= 0) {
                report(later.get(n).text() + ", call " + (n + 1) + " of a probe, answered " + got[n] + " after " + some
                    + ", but " + due[n] + " after " + others);
                return;
            }
        }
    }

    /** The calls that feed these bits, 8 to the byte. */
    static String feedBits(String bits) {
        StringBuilder calls = new StringBuilder();
        for (int n = 0; n < bits.length(); n += 8) {
            calls.append("feed(").append(Integer.parseInt(bits.substring(n, n + 8), 2)).append("); ");
        }
        return calls.toString();
    }

    /** The calls that append two segments, which use up this many bits, 64 at most, and leave variable 3 changed. */
    static String passBits(int count) {
        int head = Math.min(count, 32);
        return "field(3, " + head + ", 0); field(3, " + (count - head) + ", 0); ";
    }

    /** The calls for a full buffer that ends with these bits, and for a rule being made that has come to them. */
    static String leaving(String bits) {
        int passed = 64 - bits.length();
        return feedBits("0".repeat(passed) + bits) + passBits(passed);
    }

    static void report(String what) {
        wrong++;
        if (wrong <= MOST_PRINTED) {
            System.out.println("\"" + sentence + "\": " + what);
        }
    }

    private static void compare(List<Row> rows, int n, int answer) {
        Row row = rows.get(n);
        if (row.due() == null) {
            return;
        }
        compared++;
        if (answer != row.due()) {
            StringBuilder before = new StringBuilder();
            for (Row earlier : rows.subList(0, n)) {
                before.append(earlier.call().text()).append("; ");
            }
            report("after " + before + row.call().text() + " answered " + answer + ", due is " + row.due());
        }
    }

    private static List<Row> rows(String text) {
        List<Row> rows = new ArrayList<>();
        for (String part : text.split(";")) {
            if (!part.isBlank()) {
                addRows(rows, part.strip());
            }
        }
        return rows;
    }

    private static void addRows(List<Row> rows, String part) {
        Matcher found = CALL.matcher(part);
        if (!found.matches()) {
            throw new IllegalArgumentException("no call: " + part);
        }
        String list = found.group(3).strip();
        String[] words = list.isEmpty() ? new String[0] : list.split(",");
        int[] arguments = new int[words.length];
        for (int n = 0; n < words.length; n++) {
            arguments[n] = number(words[n].strip());
        }
        Integer due = found.group(4) == null ? null : number(found.group(4));
        Row row = new Row(new Call(found.group(2), arguments), due);
        int times = found.group(1) == null ? 1 : Integer.parseInt(found.group(1));
        for (int n = 0; n < times; n++) {
            rows.add(row);
        }
    }

    private static List<Call> calls(List<Row> rows) {
        return rows.stream().map(Row::call).toList();
    }

    private static int number(String word) {
        switch (word) {
            case "BAD_ARG":
                return -1;
            case "FULL":
                return -2;
            case "NONE":
                return -4;
            case "MIN":
                return Integer.MIN_VALUE;
            case "MAX":
                return Integer.MAX_VALUE;
            default:
                return (int) (long) Long.decode(word);
        }
    }

    private static int[] answers(List<Call> calls) {
        if (calls.size() > MOST_CALLS) {
            throw new IllegalArgumentException("more than " + MOST_CALLS + " calls");
        }
        BitSyntaxMatch made = new BitSyntaxMatch();
        int[] answers = new int[calls.size()];
        for (int n = 0; n < answers.length; n++) {
            answers[n] = answer(made, calls.get(n));
        }
        return answers;
    }

    private static int answer(BitSyntaxMatch made, Call call) {
        try {
            return call.answerOf(made);
        } catch (ArithmeticException | IndexOutOfBoundsException | NegativeArraySizeException e) {
            report(call.text() + " threw " + e);
            return 0;
        }
    }

    private static int[] answersBehind(List<Call> before, List<Call> probe) {
        List<Call> all = new ArrayList<>(before);
        all.addAll(probe);
        int[] answers = answers(all);
        return Arrays.copyOfRange(answers, before.size(), answers.length);
    }

    /** Later calls that look at one part of an object each, and random ones up to the last call that is promised. */
    private static List<List<Call>> probes() {
        String boundByAll = "";
        for (int k = 0; k < 6; k++) {
            for (int x = 0; x < 4; x++) {
                boundByAll += "boundBy(" + k + ", " + x + "); ";
            }
        }
        String[] buffers = {"", "feed(1); ", "feed(255); ", "feed(16); feed(1); ",
            "feed(0xA2); feed(1); feed(2); feed(200); ",
            "feed(0xA1); feed(7); feed(0); feed(0); feed(9); feed(8); feed(0); feed(1); "};
        String rulesOnBuffers = "";
        String madeRuleOnBuffers = "6 x unend(); segments(); end(); ";
        for (String buffer : buffers) {
            rulesOnBuffers += "empty(); " + buffer + "fitting(); " + boundByAll;
            madeRuleOnBuffers += "empty(); " + buffer + "match(); bound(0); bound(1); bound(2); bound(3); ";
        }
        String bytes = "put(0, 0); put(1, 0); put(2, 0); put(3, 0); put(4, 0); put(5, 0); put(6, 0); put(7, 0); "
            + "put(8, 0); ";
        String[] texts = {
            "segments(); rules(); fitting(); match(); bound(0); bound(1); bound(2); bound(3); " + boundByAll,
            bytes + "9 x feed(0)",
            rulesOnBuffers,
            // The rule being made is seen only once it has been ended, for which six rules must first become fewer.
            "end(); " + rulesOnBuffers,
            madeRuleOnBuffers,
            "7 x literal(0, 0); " + "unend(); scrap(); 7 x literal(0, 0); ".repeat(6),
            "scrap(); 7 x literal(0, 0); 7 x end()"};
        List<List<Call>> probes = new ArrayList<>();
        for (String text : texts) {
            probes.add(calls(rows(text)));
        }
        for (int n = 1; n <= RANDOM_PROBES; n++) {
            probes.add(randomCalls(n));
        }
        return probes;
    }

    private static List<Call> randomCalls(int seed) {
        RandomCalls random = new RandomCalls(seed);
        List<Call> calls = new ArrayList<>();
        while (calls.size() < MOST_CALLS) {
            calls.add(random.next());
        }
        return calls;
    }
}
