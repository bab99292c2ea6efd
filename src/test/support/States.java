import java.util.List;

/** Calls that bring a new object to a state in which a limit is reached, or to one in which none is. */
final class States {
    static final String NEW = "";

    private static final String FOUR_BYTES = "feed(0xA2); feed(1); feed(2); feed(200); ";
    private static final String EIGHT_BYTES = "feed(0xA1); feed(7); feed(0); feed(0); feed(9); feed(8); feed(0); "
        + "feed(1); ";
    private static final String FOUR_SEGMENTS = "literal(4, 10); field(0, 4, 0); sized(1, 0, 8); rest(2); ";
    private static final String FIVE_SEGMENTS = "literal(4, 10); field(0, 4, 0); sized(1, 0, 8); same(2, 3); rest(2); ";
    private static final String SIX_SEGMENTS = "literal(4, 10); field(0, 4, 0); sized(1, 0, 8); same(2, 3); "
        + "skip(3, 8); rest(2); ";

    /** No rule, three segments in the one being made, eight bytes. */
    static final String NO_RULE = EIGHT_BYTES + "field(1, 4, 1); field(2, 4, 0); rest(0); ";

    /** Three rules, two segments in the one being made, four bytes. */
    static final String SOME = FOUR_BYTES + FOUR_SEGMENTS + "end(); field(3, 8, 1); skip(3, 1); rest(2); end(); end(); "
        + "field(1, 16, 2); rest(0); ";

    /** One rule, six segments in the one being made. */
    static final String SIX_IN_ONE = FOUR_BYTES + FOUR_SEGMENTS + "end(); " + SIX_SEGMENTS;

    /** Five rules of six segments, none in the one being made. */
    static final String THIRTY_IN_FIVE = FOUR_BYTES + (SIX_SEGMENTS + "end(); ").repeat(5);

    /** Four rules of six segments, and six in the one being made: both limits of segments at once. */
    static final String THIRTY_WITH_SIX = FOUR_BYTES + (SIX_SEGMENTS + "end(); ").repeat(4) + SIX_SEGMENTS;

    /** Four rules of six segments and one of five, and one in the one being made. */
    static final String THIRTY_WITH_ONE = FOUR_BYTES + (SIX_SEGMENTS + "end(); ").repeat(4) + FIVE_SEGMENTS + "end(); "
        + "rest(1); ";

    /** Six rules of five segments, none in the one being made. */
    static final String THIRTY_IN_SIX = EIGHT_BYTES + (FIVE_SEGMENTS + "end(); ").repeat(6);

    /** Six rules, three segments in the one being made. */
    static final String SIX_RULES = EIGHT_BYTES + (FOUR_SEGMENTS + "end(); ").repeat(3) + "rest(1); end(); end(); "
        + "field(0, 8, 0); end(); literal(4, 10); field(2, 12, 1); rest(0); ";

    /** The states with no segment in the rule being made. */
    static final List<String> NONE_MADE = List.of(NEW, THIRTY_IN_FIVE, THIRTY_IN_SIX);

    /** The states in which no segment can be appended. */
    static final List<String> NO_SEGMENT_MORE =
        List.of(SIX_IN_ONE, THIRTY_IN_FIVE, THIRTY_WITH_SIX, THIRTY_WITH_ONE, THIRTY_IN_SIX);

    /** The states with eight bytes. */
    static final List<String> NO_BYTE_MORE = List.of(NO_RULE, SIX_RULES, THIRTY_IN_SIX);

    /** The states with six rules. */
    static final List<String> NO_RULE_MORE = List.of(SIX_RULES, THIRTY_IN_SIX);

    static final List<String> ALL = List.of(NEW, NO_RULE, SOME, SIX_IN_ONE, THIRTY_IN_FIVE, THIRTY_WITH_SIX,
        THIRTY_WITH_ONE, THIRTY_IN_SIX, SIX_RULES);

    private States() {
    }
}
