/** Terms 3: what is REACHED and LIVE and what is not, and which SENDS are BOUND, observed by what is KEPT and made. */
public final class EdgeReachTest {
    public static void main(String[] args) {
        entriesAreReached();
        onlyReachedInstructions();
        onlyNewMakesLive();
        callsReach();
        theLeast();
        aLongWay();
        meanings();
        liveOnesThatItDoesNotCover();
        tenMeanings();
        reachedSendsAlone();
        foundOnce();
        Kit.finish();
    }

    /** "ENTRIES are REACHED": one, and all six of them, whoever calls them; and none else. */
    private static void entriesAreReached() {
        StringBuilder text = new StringBuilder("class 1 0;");
        for (int k = 1; k <= 8; k++) {
            text.append("method ").append(k).append(" 1 0 0; RETURN;");
        }
        for (int many = 1; many <= 6; many++) {
            ShrinkHouse x = Kit.house(text.toString());
            for (int e = 0; e < many; e++) {
                Kit.due("entry", x.entry(7 - e), e);
            }
            Kit.shrink(x, 12);
            Kit.due("METHODS of " + many + " ENTRIES", x.size(true, 2), many);
            Kit.due("the last one", x.kept(2, 0, 7), many - 1);
            Kit.due("the first one", x.kept(2, 0, 0), Kit.NONE);
        }
    }

    private static final String TWO = "class 1 0; method 1 0 0 1; INT 1; OUT; RETURN; class 2 1; method 1 0 0 1; INT 2; OUT;"
            + "RETURN; class 3 0; field 1 0 1; method 1 1 0 1;";

    /** SEND of CLASS 0's METHOD, of an object of CLASS 0: BOUND as long as CLASS 1 is not LIVE. */
    private static void dueBound(String more, int bound) {
        ShrinkHouse x = Kit.shrunk(TWO + "NEW 0; SEND 0 0;" + more, 2, 0);
        Kit.due("BOUND with " + more, x.made(0), bound);
    }

    /** "of a REACHED METHOD's reached instructions" */
    private static void onlyReachedInstructions() {
        dueBound("RETURN", 1);
        dueBound("NEW 1; POP; RETURN", 0);
        dueBound("RETURN; NEW 1; POP", 1);
        dueBound("TRAP; NEW 1; POP", 1);
        dueBound("a: JUMP a; NEW 1; POP", 1);
        dueBound("READ 2 0; ZERO a; RETURN; a: NEW 1; TRAP", 0);
        // what RULES take away later is reached at first
        dueBound("INT 1; ZERO a; RETURN; a: NEW 1; TRAP", 0);
        // of a METHOD that is not REACHED nothing counts; a CALL that is not reached reaches none
        dueBound("RETURN; method 2 1 0 0; NEW 1; POP; RETURN", 1);
        dueBound("RETURN; CALL 2 1; method 2 1 0 0; NEW 1; POP; RETURN", 1);
        dueBound("CALL 2 1; RETURN; method 2 1 0 0; NEW 1; POP; RETURN", 0);
        dueBound("CALL 2 1; RETURN; method 2 1 0 0; RETURN; NEW 1; POP", 1);
    }

    /** "NEW: the CLASS is LIVE", by nothing else */
    private static void onlyNewMakesLive() {
        dueBound("NULL; CAST 1; STORE 0; RETURN", 1);
        dueBound("NULL; IS 1; POP; RETURN", 1);
        dueBound("NULL; CALL 1 0; RETURN", 1);
        // an object of a CLASS below makes the one above it not LIVE
        ShrinkHouse x = Kit.shrunk(TWO + "NEW 1; SEND 0 0; RETURN", 2, 0);
        Kit.due("one MEANING, below the told one", x.made(0), 0);
        Kit.due("the told one is a SHELL", x.made(3), 1);
    }

    /** "CALL: that METHOD is REACHED" */
    private static void callsReach() {
        // by a chain of CALLS that goes backwards through all eighty METHODS, and round
        StringBuilder text = new StringBuilder();
        for (int m = 0; m < 80; m++) {
            int next = m == 0 ? 79 : m - 1;
            text.append(m % 8 == 0 ? "class 1 0;" : "").append("method ").append(m % 8 + 1).append(" 1 0 0; CALL ")
                    .append(next / 8).append(' ').append(next % 8).append("; RETURN;");
        }
        ShrinkHouse x = Kit.shrunk(text.toString(), 79, 0);
        Kit.due("CLASSES", x.size(true, 0), 10);
        Kit.due("METHODS", x.size(true, 2), 80);
        x = Kit.shrunk(text.toString().replaceFirst("CALL 4 7", "NULL"), 79, 0);
        Kit.due("up to where the chain breaks off", x.size(true, 2), 40);
        Kit.due("CLASSES", x.size(true, 0), 5);
        Kit.due("CLASS 4", x.kept(0, 4, 0), Kit.NONE);
        Kit.due("CLASS 5", x.kept(0, 5, 0), 0);
    }

    /** "the least so": two METHODS that reach nothing but each other are not REACHED. */
    private static void theLeast() {
        ShrinkHouse x = Kit.shrunk("class 1 0; method 1 1 0 0; RETURN; method 2 1 0 0; CALL 0 2; RETURN; method 3 1 0 0;"
                + "CALL 0 1; RETURN", 0, 0);
        Kit.due("METHODS", x.size(true, 2), 1);
        // a CLASS that is made nowhere but in its own METHOD is not LIVE
        x = Kit.shrunk("class 1 0; method 1 0 0 1; INT 1; OUT; RETURN; class 2 1; method 1 0 0 1; NEW 1; SEND 0 0; RETURN;"
                + "class 3 0; method 1 1 0 0; NEW 0; SEND 0 0; RETURN", 2, 0);
        Kit.due("BOUND", x.made(0), 1);
        Kit.due("CLASS 1", x.kept(0, 1, 0), Kit.NONE);
    }

    /** Each METHOD that a SEND means makes the CLASS ahead of its own LIVE, down to the first one. */
    private static void aLongWay() {
        StringBuilder text = new StringBuilder("class 1 0; method 1 0 0 1; INT 0; OUT; RETURN;");
        for (int c = 1; c < 9; c++) {
            text.append("class 1 1; method 1 0 0 1; NEW ").append(c - 1).append("; POP; INT ").append(c)
                    .append("; OUT; RETURN;");
        }
        text.append("class 1 0; method 1 1 0 0; NEW 8; SEND 0 0; RETURN");
        ShrinkHouse x = Kit.shrunk(text.toString(), 9, 0);
        Kit.due("all CLASSES", x.size(true, 0), 10);
        Kit.due("all METHODS", x.size(true, 2), 10);
        Kit.due("no SHELL", x.made(3), 0);
        Kit.due("not BOUND", x.made(0), 0);
    }

    /** A SEND told by CLASS 1 of three in a row, with those LIVE that are made. */
    private static String sends(String made) {
        StringBuilder text = new StringBuilder("class 1 0; method 1 0 0 1; RETURN; class 2 1; method 1 0 0 1; INT 1; OUT;"
                + "RETURN; class 3 2; method 1 0 0 1; INT 2; OUT; RETURN; class 4 2; class 5 3; class 6 0; method 9 1 0 0;");
        for (String c : made.split(" ")) {
            text.append("NEW ").append(c).append("; POP;");
        }
        return text.append("NULL; SEND 1 0; RETURN").toString();
    }

    /** "with one MEANING, the CLASS of which COVERS the told one": none, one, one below, one of several, two */
    private static void meanings() {
        String[] bound = {"1", "3", "1 3", "0 1", "0 3 5"};
        String[] none = {"0", "5", "0 5"};
        String[] below = {"2", "4", "2 4", "0 2"};
        String[] two = {"1 2", "3 4", "1 2 3 4", "3 2"};
        for (String made : bound) {
            ShrinkHouse x = Kit.shrunk(sends(made), 3, 0);
            Kit.due("BOUND with " + made, x.made(0), 1);
            Kit.due("no SHELL with " + made, x.made(3), 0);
        }
        for (String made : none) {
            ShrinkHouse x = Kit.shrunk(sends(made), 3, 0);
            Kit.due("no MEANING with " + made, x.made(0), 0);
            Kit.due("a SHELL with " + made, x.made(3), 1);
            Kit.due("no other METHOD with " + made, x.size(true, 2), 2);
        }
        for (String made : below) {
            ShrinkHouse x = Kit.shrunk(sends(made), 3, 0);
            Kit.due("below, with " + made, x.made(0), 0);
            Kit.due("a SHELL with " + made, x.made(3), 1);
            Kit.due("the one below, with " + made, x.size(true, 2), 3);
        }
        for (String made : two) {
            ShrinkHouse x = Kit.shrunk(sends(made), 3, 0);
            Kit.due("two, with " + made, x.made(0), 0);
            Kit.due("no SHELL with " + made, x.made(3), 0);
        }
    }

    /** "of each LIVE CLASS that the told CLASS COVERS": others have a METHOD of that NAME, too. */
    private static void liveOnesThatItDoesNotCover() {
        String source = "class 1 0; method 1 0 0 1; INT 0; OUT; RETURN; class 2 1; method 1 0 0 1; INT 1; OUT; RETURN;"
                + "class 3 1; method 1 0 0 1; INT 2; OUT; RETURN; class 4 0; method 1 0 0 1; INT 3; OUT; RETURN;"
                + "class 5 0; method 9 1 0 0; NEW 0; POP; NEW 2; POP; NEW 3; POP; NEW 1; SEND 1 0; RETURN";
        ShrinkHouse x = Kit.shrunk(source, 4, 0);
        Kit.due("BOUND", x.made(0), 1);
        Kit.due("METHODS", x.size(true, 2), 2);
        Kit.due("of CLASS 0", x.kept(2, 0, 0), Kit.NONE);
        Kit.due("of CLASS 2", x.kept(2, 2, 0), Kit.NONE);
        Kit.due("of CLASS 3", x.kept(2, 3, 0), Kit.NONE);
    }

    /** All ten CLASSES are LIVE, and each has a METHOD of its own. */
    private static void tenMeanings() {
        StringBuilder text = new StringBuilder();
        StringBuilder code = new StringBuilder();
        for (int c = 0; c < 10; c++) {
            text.append("class 1 ").append(c).append("; method 1 0 0 1; INT ").append(c).append("; OUT; RETURN;");
            code.append("NEW ").append(c).append("; POP;");
        }
        ShrinkHouse x = Kit.shrunk(text + "method 2 1 0 0;" + code + "NULL; SEND 0 0; NULL; SEND 9 0; NULL; SEND 8 0; RETURN",
                10, 0);
        Kit.due("the lowest one alone is BOUND", x.made(0), 1);
        Kit.due("METHODS", x.size(true, 2), 11);
    }

    /** "a reached SEND (in REACHED METHODS)" */
    private static void reachedSendsAlone() {
        String code = "NEW 0; SEND 0 0; %s; method 2 1 0 0; NEW 0; SEND 0 0; RETURN";
        Kit.due("one", Kit.shrunk(TWO + String.format(code, "RETURN"), 2, 0).made(0), 1);
        Kit.due("one, another behind RETURN", Kit.shrunk(TWO + String.format(code, "RETURN; NULL; SEND 0 0"), 2, 0).made(0),
                1);
        Kit.due("two", Kit.shrunk(TWO + String.format(code, "NULL; SEND 0 0; RETURN"), 2, 0).made(0), 2);
        Kit.due("of another METHOD", Kit.shrunk(TWO + String.format(code, "CALL 2 1; RETURN"), 2, 0).made(0), 2);
    }

    /**
     * A SEND is BOUND by what is LIVE ahead of the RULES: what they take away makes no other SEND BOUND, but what is KEPT
     * is found once more; of the small program it is BOUND then.
     */
    private static void foundOnce() {
        ShrinkHouse x = Kit.shrunk(TWO + "NEW 0; SEND 0 0; INT 1; ZERO a; RETURN; a: NEW 1; TRAP", 2, 0);
        Kit.due("not BOUND", x.made(0), 0);
        Kit.due("CLASS 1 is not LIVE any more", x.kept(0, 1, 0), Kit.NONE);
        Kit.due("its METHOD", x.kept(2, 1, 0), Kit.NONE);
        Kit.due("no SHELL", x.made(3), 0);
        Kit.due("again", x.again(), true);
        Kit.shrink(x, 0);
        Kit.due("BOUND", x.made(0), 1);
        // LIVE and REACHED are those of this shrink(), not of one before
        x = Kit.house(TWO + "NEW 0; SEND 0 0; RETURN; method 2 1 0 0; NEW 1; POP; RETURN");
        x.entry(2);
        Kit.shrink(x, 0);
        Kit.due("BOUND with one ENTRY", x.made(0), 1);
        x.entry(3);
        Kit.shrink(x, 0);
        Kit.due("not BOUND with two", x.made(0), 0);
        Kit.due("METHODS", x.size(true, 2), 4);
    }
}
