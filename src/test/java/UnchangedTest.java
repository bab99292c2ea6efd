import java.lang.reflect.Field;
import java.lang.reflect.Modifier;
import java.util.ArrayList;
import java.util.Arrays;
import java.util.List;
import java.util.Set;
import java.util.TreeSet;

/**
 * A refused call changes nothing that any later call could tell, and neither does a call that only asks. What a call
 * answers and does comes from the object's fields alone, as FaceTest lets no static field change. So it is enough to
 * see, in every state of long runs, that such a call leaves all fields as they were, but for those in which a call that
 * asks notes how far a rule has been matched; and that no call heeds what an earlier one has left in those.
 */
public final class UnchangedTest {
    private static final int RUNS = 100;
    private static final int CALLS = 512;
    private static final int TRIED_IN_A_STATE = 60;
    private static final int MOST_PRINTED = 20;
    private static final Set<String> NOTES = Set.of("variable", "position");
    private static final Set<String> ASKING = Set.of("segments", "rules", "match", "matchFrom", "bound", "boundBy",
        "fitting");

    private static final List<Field> FIELDS = fields();
    private static final List<Call> TRIED_IN_ALL_STATES = List.of(new Call("literal", 8, 1), new Call("field", 1, 8, 3),
        new Call("sized", 2, 0, 8), new Call("skip", 3, 1), new Call("same", 0, 3), new Call("rest", 1),
        new Call("end"), new Call("unend"), new Call("feed", 255), new Call("put", 0, 256), new Call("match"),
        new Call("matchFrom", 1), new Call("matchFrom", -1), new Call("fitting"), new Call("bound", 0),
        new Call("boundBy", 0, 0), new Call("segments"), new Call("rules"));
    private static final List<Call> TRIED = tried();
    private static final RandomCalls RANDOM = new RandomCalls(20261116L);

    private static final Set<String> refusals = new TreeSet<>();
    private static int wrong = 0;

    private static List<Field> fields() {
        List<Field> fields = new ArrayList<>();
        for (Field field : BitSyntaxMatch.class.getDeclaredFields()) {
            if (!Modifier.isStatic(field.getModifiers())) {
                field.setAccessible(true);
                fields.add(field);
            }
        }
        return fields;
    }

    /** Every method that takes arguments, with values inside and outside of their ranges. */
    private static List<Call> tried() {
        int[] values = {Integer.MIN_VALUE, -1, 0, 1, 2, 3, 4, 5, 6, 7, 8, 9, 16, 17, 24, 32, 33, 255, 256,
            Integer.MAX_VALUE};
        List<Call> calls = new ArrayList<>();
        for (int a : values) {
            for (String name : List.of("rest", "feed", "matchFrom", "bound")) {
                calls.add(new Call(name, a));
            }
            for (int b : values) {
                for (String name : List.of("literal", "skip", "same", "put", "boundBy")) {
                    calls.add(new Call(name, a, b));
                }
                for (int c = -1; c <= 9; c++) {
                    calls.add(new Call("field", a, b, c));
                    calls.add(new Call("sized", a, b, c));
                }
            }
        }
        return calls;
    }

    private static void report(String what) {
        if (wrong++ < MOST_PRINTED) {
            System.out.println(what);
        }
    }

    private static BitSyntaxMatch copyOf(BitSyntaxMatch made) throws IllegalAccessException {
        BitSyntaxMatch copy = new BitSyntaxMatch();
        for (Field field : FIELDS) {
            if (field.getType().isArray()) {
                int[] values = (int[]) field.get(made);
                System.arraycopy(values, 0, field.get(copy), 0, values.length);
            } else {
                field.set(copy, field.get(made));
            }
        }
        return copy;
    }

    private static void scribbleOnNotes(BitSyntaxMatch made) throws IllegalAccessException {
        for (Field field : FIELDS) {
            if (!NOTES.contains(field.getName())) {
                continue;
            }
            if (field.getType().isArray()) {
                int[] values = (int[]) field.get(made);
                Arrays.setAll(values, n -> scribble());
            } else {
                field.set(made, scribble());
            }
        }
    }

    private static int scribble() {
        int[] values = {Integer.MIN_VALUE, -8, -1, 0, 1, 2, 8, 63, 64, 65, Integer.MAX_VALUE};
        return values[RANDOM.below(values.length)];
    }

    /** The fields that are not the same; the notes are left out where they do not count. */
    private static List<String> unlike(BitSyntaxMatch some, BitSyntaxMatch other, boolean notesCount)
            throws IllegalAccessException {
        List<String> names = new ArrayList<>();
        for (Field field : FIELDS) {
            boolean same = Arrays.deepEquals(new Object[] {field.get(some)}, new Object[] {field.get(other)});
            if (!same && (notesCount || !NOTES.contains(field.getName()))) {
                names.add(field.getName());
            }
        }
        return names;
    }

    /** The code the call was refused with, empty if it was not; what bound and boundBy answer is no code. */
    private static String code(Call call, int answer) {
        if (call.name().startsWith("bound")) {
            return "";
        }
        switch (answer) {
            case BitSyntaxMatch.BAD_ARG:
                return "BAD_ARG";
            case BitSyntaxMatch.FULL:
                return "FULL";
            case BitSyntaxMatch.NONE:
                return "NONE";
            default:
                return "";
        }
    }

    private static void tryOn(BitSyntaxMatch made, Call call, String where) throws IllegalAccessException {
        BitSyntaxMatch copy = copyOf(made);
        int answer = call.answerOf(copy);
        String code = code(call, answer);
        boolean asks = ASKING.contains(call.name());
        if (!code.isEmpty()) {
            refusals.add(call.name() + " " + code + (made.segments() == 6 ? " with 6 segments" : ""));
        }
        if (asks || !code.isEmpty()) {
            List<String> unlike = unlike(made, copy, !asks);
            if (!unlike.isEmpty()) {
                report(where + call.text() + " answered " + answer + " and changed " + unlike);
            }
        }
    }

    private static void heedsNoNotes(BitSyntaxMatch made, Call call, String where) throws IllegalAccessException {
        BitSyntaxMatch copy = copyOf(made);
        scribbleOnNotes(copy);
        int other = call.answerOf(copy);
        int answer = call.answerOf(made);
        List<String> unlike = unlike(made, copy, false);
        if (answer != other || !unlike.isEmpty()) {
            report(where + call.text() + " answered " + answer + ", but " + other + " with other notes, which changed "
                + unlike);
        }
    }

    private static void run(int run) throws IllegalAccessException {
        BitSyntaxMatch made = new BitSyntaxMatch();
        for (int n = 1; n <= CALLS; n++) {
            String where = "run " + run + ", call " + n + ": ";
            for (Call call : TRIED_IN_ALL_STATES) {
                tryOn(made, call, where);
            }
            for (int t = 0; t < TRIED_IN_A_STATE; t++) {
                tryOn(made, TRIED.get(RANDOM.below(TRIED.size())), where);
            }
            heedsNoNotes(made, RANDOM.next(), where);
        }
    }

    /** A run that never comes to a limit would show nothing of it; both limits of segments answer FULL. */
    private static void checkRefusals() {
        Set<String> due = new TreeSet<>(Set.of("end FULL", "feed BAD_ARG", "feed FULL", "match NONE",
            "matchFrom BAD_ARG", "matchFrom NONE", "put BAD_ARG", "unend NONE"));
        for (String name : List.of("literal", "field", "sized", "skip", "same", "rest")) {
            due.add(name + " BAD_ARG");
            due.add(name + " FULL");
        }
        for (String refusal : List.copyOf(due)) {
            due.add(refusal + " with 6 segments");
        }
        if (!refusals.equals(due)) {
            report("the calls were refused as " + refusals + ", due is " + due);
        }
    }

    public static void main(String[] args) throws IllegalAccessException {
        for (int run = 1; run <= RUNS && wrong == 0; run++) {
            run(run);
        }
        if (wrong == 0) {
            checkRefusals();
        }
        System.out.println(wrong == 0 ? "no refused call changed anything" : wrong + " faults");
        if (wrong != 0) {
            System.exit(1);
        }
    }
}
