import java.util.Arrays;
import java.util.stream.Collectors;

/** One call with its arguments. */
record Call(String name, int... arguments) {
    String text() {
        return name + Arrays.stream(arguments).mapToObj(Integer::toString).collect(Collectors.joining(", ", "(", ")"));
    }

    /** What the object answers; 0 where the call answers nothing. */
    int answerOf(BitSyntaxMatch made) {
        switch (arguments.length) {
            case 0:
                return withNone(made);
            case 1:
                return withOne(made, arguments[0]);
            case 2:
                return withTwo(made, arguments[0], arguments[1]);
            default:
                return withThree(made, arguments[0], arguments[1], arguments[2]);
        }
    }

    private int withNone(BitSyntaxMatch made) {
        switch (name) {
            case "segments":
                return made.segments();
            case "end":
                return made.end();
            case "unend":
                return made.unend();
            case "rules":
                return made.rules();
            case "match":
                return made.match();
            case "fitting":
                return made.fitting();
            case "scrap":
                made.scrap();
                return 0;
            case "empty":
                made.empty();
                return 0;
            default:
                throw noSuchCall();
        }
    }

    private int withOne(BitSyntaxMatch made, int a) {
        switch (name) {
            case "rest":
                return made.rest(a);
            case "feed":
                return made.feed(a);
            case "matchFrom":
                return made.matchFrom(a);
            case "bound":
                return made.bound(a);
            default:
                throw noSuchCall();
        }
    }

    private int withTwo(BitSyntaxMatch made, int a, int b) {
        switch (name) {
            case "literal":
                return made.literal(a, b);
            case "skip":
                return made.skip(a, b);
            case "same":
                return made.same(a, b);
            case "put":
                return made.put(a, b);
            case "boundBy":
                return made.boundBy(a, b);
            default:
                throw noSuchCall();
        }
    }

    private int withThree(BitSyntaxMatch made, int a, int b, int c) {
        switch (name) {
            case "field":
                return made.field(a, b, c);
            case "sized":
                return made.sized(a, b, c);
            default:
                throw noSuchCall();
        }
    }

    private IllegalArgumentException noSuchCall() {
        return new IllegalArgumentException("no call " + text());
    }
}
