/** Long runs of calls, each answered by the class and by a second reading of the document. */
public final class ModelTest {
    private static final int RUNS = 4000;
    private static final int CALLS = 512;
    private static final int MOST_PRINTED = 20;

    private static final RandomCalls RANDOM = new RandomCalls(20261115L);
    private static int wrong = 0;
    private static int fits = 0;

    private static void run(int run) {
        BitSyntaxMatch made = new BitSyntaxMatch();
        Model model = new Model();
        for (int n = 1; n <= CALLS; n++) {
            Call call = RANDOM.next();
            int due = model.answer(call);
            int got = call.answerOf(made);
            if (got != due && wrong++ < MOST_PRINTED) {
                System.out.println("run " + run + ", call " + n + ": " + call.text() + " answered " + got + ", due is "
                    + due);
            }
            if (call.name().equals("match") && due >= 0) {
                fits++;
            }
        }
    }

    public static void main(String[] args) {
        for (int run = 1; run <= RUNS && wrong == 0; run++) {
            run(run);
        }
        if (wrong == 0 && fits < RUNS) {
            wrong++;
            System.out.println("the runs are too poor: match() found a rule only " + fits + " times");
        }
        System.out.println(wrong == 0 ? "all answers are as due, match() found a rule " + fits + " times"
            : wrong + " answers are not as due");
        if (wrong != 0) {
            System.exit(1);
        }
    }
}
