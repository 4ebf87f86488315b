/** Terms 3 (b): which METHOD is a LEAF, what comes of its CALL, and where it is not put in. */
public final class EdgePutInTest {
    private static final String HEAD = "class 1 0; field 1 0 0; field 2 0 1; method 1 1 0 0; CALL 0 1; RETURN; method 2 ";
    private static final String TAIL = "; method 3 1 0 0; RETURN; method 4 0 0 1; RETURN";

    public static void main(String[] args) {
        theBudget();
        leavesOfTwelve();
        opsOfALeaf();
        returnIsTheLastOneAlone();
        nothingButItsResult();
        staticAlone();
        twentyLocals();
        instructions120();
        byPlaces();
        tenOnTheStack();
        whatComesOfACall();
        aLeafOfNothing();
        reachedCallsAlone();
        jumpsToWhereItBegins();
        moreThanOne();
        Kit.finish();
    }

    private static int putIn(String leaf, int budget) {
        return Kit.shrunk(HEAD + leaf + TAIL, 0, budget).made(1);
    }

    /** "at most BUDGET instructions (RETURN, too)": of each BUDGET the longest LEAF, and one longer. */
    private static void theBudget() {
        for (int budget = 0; budget <= 12; budget++) {
            for (int length = 1; length <= 14; length++) {
                StringBuilder leaf = new StringBuilder("1 0 0;");
                for (int i = 0; i < length - 1; i++) {
                    // of an even length one is left on the stack at RETURN: that is no LEAF of any BUDGET
                    leaf.append(i % 2 == 0 ? "NEW 0;" : "POP;");
                }
                boolean clean = length % 2 == 1;
                int due = clean && length <= budget ? 1 : 0;
                Kit.due("of " + length + " with BUDGET " + budget, putIn(leaf + "RETURN", budget), due);
            }
        }
    }

    private static void leavesOfTwelve() {
        String eleven = "1 1 0; INT 1;" + "INT 2; ADD;".repeat(4) + "DUP; ADD; RETURN";
        String source = "class 1 0; method 1 1 0 0; CALL 0 1; OUT; RETURN; method 2 " + eleven;
        Kit.due("12 of 12", Kit.shrunk(source, 0, 12).made(1), 1);
        Kit.due("12 of 11", Kit.shrunk(source, 0, 11).made(1), 0);
    }

    /** "of OPS 0 to 10, 15 to 19, 23 to 25": each of them, and each of the others */
    private static void opsOfALeaf() {
        String[] can = {"INT 1; POP", "NULL; POP", "INT 1; STORE 0; LOAD 0; OUT", "INT 1; DUP; OUT; OUT",
            "INT 1; INT 1; ADD; OUT", "INT 1; INT 1; SUB; OUT", "INT 1; INT 1; MUL; OUT", "INT 1; INT 1; DIV; OUT",
            "INT 1; INT 1; REM; OUT", "NEW 0; POP", "NEW 0; GET 0 0; OUT", "NEW 0; INT 1; PUT 0 0", "READ 0 1; OUT",
            "INT 1; WRITE 0 1", "NULL; CAST 0; POP", "NULL; IS 0; OUT"};
        for (String code : can) {
            Kit.due(code, putIn("1 0 1;" + code + "; RETURN", 12), 1);
        }
        String[] cannot = {"JUMP 1", "INT 1; ZERO 2", "INT 1; INT 1; LESS 3", "NULL; NONE 2", "NULL; CALL 0 3",
            "NULL; SEND 0 3", "TRAP"};
        for (String code : cannot) {
            Kit.due(code, putIn("1 0 1;" + code + "; RETURN", 12), 0);
        }
        // METHOD 2 is put in where it is called; what calls it is none the more a LEAF
        Kit.due("CALL of a LEAF", putIn("1 0 1; CALL 0 2; RETURN", 12), 1);
        ShrinkHouse x = Kit.shrunk(HEAD + "1 0 1; CALL 0 2; RETURN" + TAIL, 0, 12);
        Kit.due("it is called still", x.size(true, 2), 2);
        Kit.due("the LEAF is not", x.kept(2, 0, 2), Kit.NONE);
    }

    /** "and, as the last one alone, 22" */
    private static void returnIsTheLastOneAlone() {
        Kit.due("one RETURN", putIn("1 0 0; RETURN", 12), 1);
        Kit.due("two of them", putIn("1 0 0; RETURN; RETURN", 12), 0);
        Kit.due("one ahead of the last", putIn("1 0 0; RETURN; NULL", 12), 0);
        Kit.due("none", putIn("1 0 0; TRAP", 12), 0);
        Kit.due("none, but a jump", putIn("1 0 0; JUMP 0", 12), 0);
    }

    /** "with nothing but its RESULT on the stack there" */
    private static void nothingButItsResult() {
        Kit.due("without a RESULT", putIn("1 0 0; NULL; POP; RETURN", 12), 1);
        Kit.due("without a RESULT, one there", putIn("1 0 0; NULL; RETURN", 12), 0);
        String call = "class 1 0; method 1 1 0 0; CALL 0 1; POP; RETURN; method 2 ";
        Kit.due("an INT", Kit.shrunk(call + "1 1 0; INT 1; RETURN", 0, 12).made(1), 1);
        Kit.due("a REF", Kit.shrunk(call + "1 2 0; NULL; RETURN", 0, 12).made(1), 1);
        Kit.due("two INTS", Kit.shrunk(call + "1 1 0; INT 1; INT 1; RETURN", 0, 12).made(1), 0);
        Kit.due("another one under it", Kit.shrunk(call + "1 2 0; INT 1; NULL; RETURN", 0, 12).made(1), 0);
    }

    /** "a LEAF is a STATIC METHOD": of others no CALL and no BOUND SEND */
    private static void staticAlone() {
        String source = "class 1 0; method 1 1 0 0; NEW 0; %s 0 1; RETURN; method 2 0 0 1; RETURN";
        Kit.due("CALL", Kit.shrunk(String.format(source, "CALL"), 0, 12).made(1), 0);
        ShrinkHouse x = Kit.shrunk(String.format(source, "SEND"), 0, 12);
        Kit.due("BOUND", x.made(0), 1);
        Kit.due("put in", x.made(1), 0);
    }

    /** "unless LOCALS would be more than 20" */
    private static void twentyLocals() {
        for (int own = 0; own <= 20; own++) {
            for (int leaf : new int[] {0, 1, 3, 19, 20}) {
                ShrinkHouse x = Kit.shrunk("class 1 0; method 1 1 0 " + own + "; CALL 0 1; RETURN; method 2 1 0 " + leaf
                        + "; NEW 0; POP; RETURN", 0, 12);
                boolean fits = own + leaf <= 20;
                Kit.due(own + " and " + leaf, x.made(1), fits ? 1 : 0);
                Kit.due("LOCALS", x.method(true, 0, 0, 4), fits ? own + leaf : own);
                // also if none of them is used
                x = Kit.shrunk("class 1 0; method 1 1 0 " + own + "; CALL 0 1; RETURN; method 2 1 0 " + leaf + "; RETURN", 0, 1);
                Kit.due(own + " and unused " + leaf, x.made(1), fits ? 1 : 0);
                Kit.due("LOCALS", x.method(true, 0, 0, 4), fits ? own + leaf : own);
            }
        }
    }

    /** A METHOD of so many instructions, with CALLS of METHOD 1 (one more each) and 2 (one fewer each) in it. */
    private static ShrinkHouse filled(int instructions, String... calls) {
        StringBuilder text = new StringBuilder("class 1 0; method 1 1 0 0;");
        for (String call : calls) {
            text.append(call).append(';');
        }
        for (int n = calls.length; n < instructions - 1; n++) {
            text.append((n - calls.length) % 2 == 0 ? "NEW 0;" : "POP;");
        }
        return Kit.shrunk(text + "RETURN; method 2 1 0 0; NEW 0; POP; RETURN; method 3 1 0 0; RETURN", 0, 12);
    }

    /** "instructions more than 120" */
    private static void instructions120() {
        ShrinkHouse x = filled(119, "NEW 0", "POP", "CALL 0 1");
        Kit.due("120", x.made(1), 1);
        Kit.due("instructions", x.method(true, 0, 0, 5), 120);
        x = filled(120, "NEW 0", "POP", "CALL 0 1");
        Kit.due("121", x.made(1), 0);
        Kit.due("instructions", x.method(true, 0, 0, 5), 120);
        x = filled(118, "NEW 0", "POP", "CALL 0 1", "CALL 0 1");
        Kit.due("120 by two", x.made(1), 2);
        // with three PARAMS and one instruction there are three more for the CALL
        String three = "class 1 0; method 1 1 0 0; NULL; NULL; NULL; CALL 0 1;%sRETURN; method 2 1 0 3 1 1 1; RETURN";
        Kit.due("STORES count", Kit.shrunk(String.format(three, "NULL; POP;".repeat(57) + "TRAP;"), 0, 12).made(1), 0);
        Kit.due("STORES count", Kit.shrunk(String.format(three, "NULL; POP;".repeat(56) + "TRAP;"), 0, 12).made(1), 1);
        // those that are not reached count, too
        String dead = "class 1 0; method 1 1 0 0; CALL 0 1; RETURN;%smethod 2 1 0 0; NEW 0; POP; RETURN";
        Kit.due("120, not reached", Kit.shrunk(String.format(dead, "TRAP;".repeat(117)), 0, 12).made(1), 1);
        Kit.due("121, not reached", Kit.shrunk(String.format(dead, "TRAP;".repeat(118)), 0, 12).made(1), 0);
    }

    /** "by places": one that does not fit is left, a later one is put in when there is room again. */
    private static void byPlaces() {
        Kit.due("no room for the third", filled(118, "CALL 0 1", "CALL 0 1", "CALL 0 1", "NULL").made(1), 2);
        ShrinkHouse x = filled(120, "CALL 0 1", "CALL 0 2", "CALL 0 1", "CALL 0 1");
        Kit.due("the second makes room for the third", x.made(1), 2);
        Kit.due("the first one is called", Kit.origins(x, 0, 0), "0");
        Kit.due("the third one is put in", Kit.origins(x, 0, 1), "1000 2");
        Kit.due("the fourth one is called", Kit.origins(x, 0, 3), "3");
    }

    /** "or the stack, with what lies under the PARAMS, more than 10 ahead of any of the LEAF's instructions" */
    private static void tenOnTheStack() {
        String three = "CALL 0 1; RETURN; method 2 1 0 0; NEW 0; DUP; DUP; POP; POP; POP; RETURN";
        for (int under = 0; under <= 10; under++) {
            String source = "class 1 0; method 1 1 0 0;" + "NULL;".repeat(under) + three;
            Kit.due(under + " and 3", Kit.shrunk(source, 0, 12).made(1), under + 3 <= 10 ? 1 : 0);
        }
        // its PARAMS do not lie under it
        String params = "CALL 0 1; RETURN; method 2 1 0 3 1 1 1; LOAD 0; LOAD 1; LOAD 2; POP; POP; POP; RETURN";
        for (int all = 3; all <= 10; all++) {
            String source = "class 1 0; method 1 1 0 0;" + "NULL;".repeat(all) + params;
            Kit.due(all + ", three of them PARAMS", Kit.shrunk(source, 0, 12).made(1), 1);
        }
        String four = "CALL 0 1; RETURN; method 2 1 0 3 1 1 1; LOAD 0; DUP; DUP; DUP; POP; POP; POP; POP; RETURN";
        Kit.due("6 under it and 4", Kit.shrunk("class 1 0; method 1 1 0 0;" + "NULL;".repeat(9) + four, 0, 12).made(1), 1);
        Kit.due("7 under it and 4", Kit.shrunk("class 1 0; method 1 1 0 0;" + "NULL;".repeat(10) + four, 0, 12).made(1), 0);
        // what is there behind its last instruction counts as ahead of RETURN
        String result = "CALL 0 1; POP; RETURN; method 2 1 1 0; READ 0 0; RETURN";
        Kit.due("9 under it and its RESULT", Kit.shrunk("class 1 0; field 1 0 1; method 1 1 0 0;" + "NULL;".repeat(9) + result,
                0, 12).made(1), 1);
        // a LEAF that puts nothing on the stack has room with ten under it, one that puts one there has not
        String nothing = "NULL;".repeat(10) + "CALL 0 1; RETURN; method 2 1 0 0; RETURN";
        Kit.due("10 under it", Kit.shrunk("class 1 0; method 1 1 0 0;" + nothing, 0, 12).made(1), 1);
        String something = nothing.replace("0 0; RETURN", "0 0; NEW 0; POP; RETURN");
        Kit.due("10 under it and 1", Kit.shrunk("class 1 0; method 1 1 0 0;" + something, 0, 12).made(1), 0);
    }

    /**
     * "STORE of local p + its PARAMS' number, from the last one down; then the LEAF's code without RETURN, with p added
     * to its locals; p is how many LOCALS there are so far, and they are more by the LEAF's"
     */
    private static void whatComesOfACall() {
        ShrinkHouse x = Kit.shrunk("class 1 0; field 1 0 1; method 1 1 0 2; READ 0 0; STORE 1; READ 0 0; LOAD 1; NEW 0;"
                + "CALL 0 1; OUT; READ 0 0; LOAD 1; NULL; CALL 0 1; OUT; RETURN; method 2 1 1 5 0 0 1; LOAD 0; STORE 4;"
                + "LOAD 2; POP; LOAD 4; LOAD 1; SUB; RETURN", 0, 8);
        Kit.due("put in", x.made(1), 2);
        // of LOAD and POP nothing is left, and so nobody loads PARAM 2 any more
        Kit.dueSmall(x, "the code", "class 1 0; field 1 0 1; method 1 1 0 12; READ 0 0; STORE 1; READ 0 0; LOAD 1; NEW 0;"
                + "POP; STORE 3; STORE 2; LOAD 2; STORE 6; LOAD 6; LOAD 3; SUB; OUT; READ 0 0; LOAD 1; STORE 8; STORE 7;"
                + "LOAD 7; STORE 11; LOAD 11; LOAD 8; SUB; OUT; RETURN");
    }

    /** RETURN alone, without PARAMS: nothing comes, and jumps to the CALL go to what stands behind it. */
    private static void aLeafOfNothing() {
        ShrinkHouse x = Kit.shrunk("class 1 0; field 1 0 1; method 1 1 0 0; READ 0 0; ZERO a; INT 1; OUT; a: CALL 0 1; INT 2;"
                + "OUT; RETURN; method 2 1 0 0; RETURN", 0, 1);
        Kit.dueSmall(x, "the code", "class 1 0; field 1 0 1; method 1 1 0 0; READ 0 0; ZERO a; INT 1; OUT; a: INT 2; OUT;"
                + "RETURN");
        x = Kit.shrunk("class 1 0; method 1 1 0 0; CALL 0 1; CALL 0 1; CALL 0 1; RETURN; method 2 1 0 0; RETURN", 0, 1);
        Kit.due("three CALLS", x.made(1), 3);
        Kit.due("RETURN alone is left", x.size(true, 3), 1);
        // with PARAMS, the STORES come; as nobody loads these, they become POPS
        x = Kit.shrunk("class 1 0; field 1 0 1; method 1 1 0 0; READ 0 0; READ 0 0; CALL 0 1; RETURN; method 2 1 0 2 0 0;"
                + "RETURN", 0, 1);
        Kit.dueSmall(x, "the code", "class 1 0; field 1 0 1; method 1 1 0 2; READ 0 0; READ 0 0; POP; POP; RETURN");
    }

    /** "each reached CALL" */
    private static void reachedCallsAlone() {
        ShrinkHouse x = Kit.shrunk("class 1 0; method 1 1 0 5; CALL 0 1; RETURN; CALL 0 1; CALL 0 1; method 2 1 0 5; NEW 0;"
                + "POP; RETURN", 0, 12);
        Kit.due("one of three", x.made(1), 1);
        Kit.due("LOCALS", x.method(true, 0, 0, 4), 10);
        // in each REACHED METHOD, not in others
        x = Kit.shrunk("class 1 0; method 1 1 0 0; CALL 0 1; RETURN; method 2 1 0 0; NEW 0; POP; RETURN; method 3 1 0 0;"
                + "CALL 0 1; RETURN", 0, 12);
        Kit.due("one of two", x.made(1), 1);
    }

    /** "Jumps go to where what they went to begins.": ahead of it, to it, behind it, from both sides */
    private static void jumpsToWhereItBegins() {
        ShrinkHouse x = Kit.shrunk("class 1 0; field 1 0 1; method 1 1 0 0; a: READ 0 0; ZERO d; b: READ 0 0; c: CALL 0 1;"
                + "d: READ 0 0; ZERO a; READ 0 0; ZERO b; READ 0 0; READ 0 0; ZERO c; POP; READ 0 0; ZERO d; RETURN;"
                + "method 2 1 0 1 0; LOAD 0; OUT; RETURN", 0, 3);
        Kit.dueSmall(x, "the code", "class 1 0; field 1 0 1; method 1 1 0 1; a: READ 0 0; ZERO d; b: READ 0 0; c: STORE 0;"
                + "LOAD 0; OUT; d: READ 0 0; ZERO a; READ 0 0; ZERO b; READ 0 0; READ 0 0; ZERO c; POP; READ 0 0; ZERO d;"
                + "RETURN");
    }

    /** As many LEAVES as there is room for, each with LOCALS of its own. */
    private static void moreThanOne() {
        ShrinkHouse x = Kit.shrunk("class 1 0; field 1 0 1; method 1 1 0 0;" + "READ 0 0; CALL 0 1;".repeat(21)
                + "RETURN; method 2 1 0 1 0; LOAD 0; OUT; RETURN", 0, 12);
        Kit.due("twenty of 21", x.made(1), 20);
        Kit.due("LOCALS", x.method(true, 0, 0, 4), 20);
        Kit.due("instructions", x.method(true, 0, 0, 5), 20 * 4 + 3);
        Kit.due("the LEAF is called once", x.kept(2, 0, 1), 1);
    }
}
