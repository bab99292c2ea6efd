/**
 * Calls without end that bring an object to its limits and back. They are the same each time: their numbers come from a
 * fixed recurrence.
 */
final class RandomCalls {
    private long state;

    RandomCalls(long seed) {
        state = seed;
    }

    int below(int bound) {
        state = state * 6364136223846793005L + 1442695040888963407L;
        return (int) ((state >>> 33) % bound);
    }

    Call next() {
        int turn = below(20);
        if (turn < 5) {
            return append();
        }
        if (turn < 7) {
            return changeRules();
        }
        return turn < 10 ? changeBuffer() : ask();
    }

    /** Mostly from least to greatest, now and then just outside or far outside. */
    private int about(int least, int greatest) {
        int turn = below(60);
        if (turn == 0) {
            return least - 1;
        }
        if (turn == 1) {
            return greatest + 1;
        }
        if (turn == 2) {
            return below(2) == 0 ? Integer.MIN_VALUE : Integer.MAX_VALUE;
        }
        return least + below(greatest - least + 1);
    }

    /** Small bytes make widths that fit; the others bring high bits. */
    private int aByte() {
        int turn = below(4);
        return turn == 0 ? about(0, 255) : turn == 1 ? 32 * below(8) : below(5);
    }

    private int aVariable() {
        return about(0, 3);
    }

    private int aFieldWidth(int flags) {
        if (flags >= 2 || below(3) != 0) {
            return below(12) == 0 ? about(0, 32) : 8 * (1 + below(4));
        }
        return below(2) == 0 ? about(0, 32) : below(9);
    }

    private Call literal() {
        int w = below(3) == 0 ? about(0, 16) : below(5);
        int greatest = w >= 1 && w <= 16 ? (1 << w) - 1 : 1;
        return new Call("literal", w, below(2) == 0 ? 0 : about(0, greatest));
    }

    private Call append() {
        switch (below(6)) {
            case 0:
                return literal();
            case 1:
                int flags = about(0, 3);
                return new Call("field", aVariable(), aFieldWidth(flags), flags);
            case 2:
                return new Call("sized", aVariable(), aVariable(), about(1, 8));
            case 3:
                return new Call("skip", aVariable(), about(1, 8));
            case 4:
                return new Call("same", aVariable(), aVariable());
            default:
                return new Call("rest", aVariable());
        }
    }

    private Call changeRules() {
        int turn = below(12);
        return new Call(turn < 7 ? "end" : turn < 11 ? "unend" : "scrap");
    }

    private Call changeBuffer() {
        int turn = below(16);
        if (turn < 8) {
            return new Call("feed", aByte());
        }
        return turn < 15 ? new Call("put", about(0, 7), aByte()) : new Call("empty");
    }

    private Call ask() {
        switch (below(7)) {
            case 0:
                return new Call("match");
            case 1:
                return new Call("matchFrom", about(0, 5));
            case 2:
                return new Call("bound", aVariable());
            case 3:
                return new Call("boundBy", about(0, 5), aVariable());
            case 4:
                return new Call("fitting");
            case 5:
                return new Call("segments");
            default:
                return new Call("rules");
        }
    }
}
