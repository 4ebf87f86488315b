/**
 * Terms 3 (c): in which order RULES are done, and which jumps keep instructions apart. The same code mostly comes of any
 * order; "INT 7, INT 0, ADD" does not hide it: RULE 4 takes it at its first place, RULE 9 at its second one.
 */
public final class EdgeRuleOrderTest {
    public static void main(String[] args) {
        jumpsThatAreNotReachedKeepApart();
        loadsThatAreNotReachedCount();
        notReachedHasItsPlaceInTheOrder();
        fromTheFirstPlaceAgain();
        eachJumpKeepsApart();
        ofEachRuleTheSecond();
        ofEachRuleTheFirst();
        whatARuleMakesIsTakenAnew();
        Kit.finish();
    }

    /** "a jump (of the code as it is then, reached or not)" */
    private static void jumpsThatAreNotReachedKeepApart() {
        for (String jump : new String[] {"JUMP a", "ZERO a", "LESS a", "NONE a"}) {
            ShrinkHouse x = EdgeRulesTest.due("INT 7; a: INT 0; ADD; OUT; RETURN;" + jump, "INT 7; OUT; RETURN", 9, 1);
            Kit.due("its own ORIGIN", Kit.origins(x, 0, 0), "0");
            x = EdgeRulesTest.due("INT 7; b: INT 0; ADD; a: OUT; RETURN;" + jump, "INT 7; OUT; RETURN", 4, 1);
            Kit.due("the ORIGIN of ADD", Kit.origins(x, 0, 0), "2");
        }
        // the third one, too
        EdgeRulesTest.due("INT 7; INT 1; a: MUL; OUT; RETURN; JUMP a", "INT 7; OUT; RETURN", 1, 4);
        // "as it is then": once RULE 6 has taken the jump, nothing keeps them apart any more
        EdgeRulesTest.due("INT 5; INT 1; ZERO a; POP; INT 7; a: INT 0; ADD; OUT; RETURN", "INT 7; OUT; RETURN", 6, 5, 4);
        EdgeRulesTest.due("INT 7; a: INT 0; ADD; INT 1; ZERO a; OUT; RETURN", "INT 7; OUT; RETURN", 9, 6);
    }

    /** "nowhere in the code LOADED": a LOAD that is not reached is in it until RULE 1 takes it. */
    private static void loadsThatAreNotReachedCount() {
        ShrinkHouse x = EdgeRulesTest.due("INT 3; INT 5; STORE 0; INT 0; ADD; OUT; RETURN; LOAD 0", "INT 3; OUT; RETURN", 9, 1,
                10, 5);
        Kit.due("its own ORIGIN", Kit.origins(x, 0, 0), "0");
        x = EdgeRulesTest.due("INT 3; INT 5; STORE 0; INT 0; ADD; OUT; RETURN; LOAD 1", "INT 3; OUT; RETURN", 10, 5, 4, 1);
        Kit.due("the ORIGIN of ADD", Kit.origins(x, 0, 0), "4");
    }

    /** RULE 1 is done at its place, neither ahead of all others nor behind them. */
    private static void notReachedHasItsPlaceInTheOrder() {
        // the one that is not reached stands ahead of them: it is gone by then
        EdgeRulesTest.due("JUMP b; JUMP a; b: INT 7; a: INT 0; ADD; OUT; RETURN", "INT 7; OUT; RETURN", 1, 2, 4);
        // it stands behind them
        EdgeRulesTest.due("INT 7; a: INT 0; ADD; OUT; RETURN; JUMP a", "INT 7; OUT; RETURN", 9, 1);
        // in between: it is gone for the second three, not for the first ones
        EdgeRulesTest.due("INT 7; a: INT 0; ADD; JUMP c; LESS a; ZERO b; c: INT 5; b: INT 0; ADD; OUT; OUT; RETURN",
                "INT 7; INT 5; OUT; OUT; RETURN", 9, 1, 1, 2, 4);
    }

    /** "at the first place at which one fits": of the whole code, each time */
    private static void fromTheFirstPlaceAgain() {
        ShrinkHouse x = EdgeRulesTest.due("INT 3; INT 5; POP; INT 0; ADD; OUT; RETURN", "INT 3; OUT; RETURN", 5, 4);
        Kit.due("the ORIGIN of ADD", Kit.origins(x, 0, 0), "4");
        EdgeRulesTest.due("INT 3; NULL; POP; INT 1; DIV; OUT; RETURN", "INT 3; OUT; RETURN", 5, 4);
        EdgeRulesTest.due("INT 3; JUMP a; a: INT 0; ADD; OUT; RETURN", "INT 3; OUT; RETURN", 2, 4);
        EdgeRulesTest.due("INT 3; INT 1; INT 1; SUB; ADD; OUT; RETURN", "INT 3; OUT; RETURN", 4, 4);
        // RULE 9 has been done at 1 before RULE 5 at 5 would let 3 and 4 come together
        EdgeRulesTest.due("READ 0 0; INT 0; ADD; INT 4; INT 5; INT 6; POP; SUB; OUT; OUT; RETURN",
                "READ 0 0; INT -1; OUT; OUT; RETURN", 9, 5, 4);
    }

    private static void eachJumpKeepsApart() {
        EdgeRulesTest.stays("INT 1; a: INT 2; ADD; READ 0 0; ZERO a; OUT; RETURN");
        EdgeRulesTest.stays("INT 1; a: INT 2; ADD; READ 0 0; READ 0 0; LESS a; OUT; RETURN");
        EdgeRulesTest.stays("INT 1; a: INT 2; ADD; READ 0 1; NONE a; OUT; RETURN");
        EdgeRulesTest.stays("INT 1; a: INT 2; ADD; READ 0 0; ZERO b; JUMP a; b: OUT; RETURN");
        // from ahead of them
        EdgeRulesTest.stays("READ 0 0; READ 0 0; ZERO a; POP; INT 1; a: INT 2; ADD; OUT; RETURN");
        EdgeRulesTest.stays("READ 0 0; READ 0 0; READ 0 0; LESS a; POP; INT 1; a: INT 2; ADD; OUT; RETURN");
        EdgeRulesTest.stays("READ 0 0; READ 0 1; NONE a; POP; INT 1; a: INT 2; ADD; OUT; RETURN");
    }

    /** "None of the instructions .. but the first": here the last one of two */
    private static void ofEachRuleTheSecond() {
        String again = "READ 0 0; READ 0 0; ZERO a; POP; OUT; RETURN";
        for (String op : new String[] {"INT 0; a: ADD;", "INT 0; a: SUB;", "INT 1; a: MUL;", "INT 1; a: DIV;"}) {
            EdgeRulesTest.stays("READ 0 0;" + op + again);
        }
        EdgeRulesTest.stays("INT 1; a: POP; READ 0 0; READ 0 0; ZERO a; OUT; RETURN");
        EdgeRulesTest.stays("READ 0 0; STORE 1; LOAD 1; a: STORE 1; LOAD 1; READ 0 0; ZERO a; OUT; RETURN");
    }

    /** "but the first": that one may be jumped to, of each RULE */
    private static void ofEachRuleTheFirst() {
        EdgeRulesTest.due("a: JUMP b; b: READ 0 0; ZERO a; RETURN", "b: READ 0 0; ZERO b; RETURN", 2);
        EdgeRulesTest.due("READ 0 0; a: ZERO b; READ 0 0; READ 0 0; ZERO a; RETURN; b: JUMP c; TRAP; c: TRAP",
                "READ 0 0; a: ZERO c; READ 0 0; READ 0 0; ZERO a; RETURN; c: TRAP", 3, 1, 1);
        EdgeRulesTest.due("READ 0 0; STORE 0; a: LOAD 0; POP; LOAD 0; OUT; READ 0 0; ZERO a; RETURN",
                "READ 0 0; STORE 0; a: LOAD 0; OUT; READ 0 0; ZERO a; RETURN", 5);
        EdgeRulesTest.due("READ 0 0; a: DUP; POP; READ 0 0; ZERO a; OUT; RETURN",
                "READ 0 0; a: READ 0 0; ZERO a; OUT; RETURN", 5);
        EdgeRulesTest.due("a: NULL; POP; READ 0 0; ZERO a; RETURN", "a: READ 0 0; ZERO a; RETURN", 5);
        EdgeRulesTest.due("a: NULL; NONE b; TRAP; b: READ 0 0; ZERO a; RETURN", "b: READ 0 0; ZERO b; RETURN", 8, 1, 2);
        EdgeRulesTest.due("READ 0 0; a: ZERO b; b: READ 0 0; READ 0 0; ZERO a; RETURN",
                "READ 0 0; a: POP; READ 0 0; READ 0 0; ZERO a; RETURN", 12);
        EdgeRulesTest.due("READ 0 1; a: NONE b; b: READ 0 1; READ 0 0; ZERO a; RETURN",
                "READ 0 1; a: POP; READ 0 1; READ 0 0; ZERO a; RETURN", 12);
    }

    /** A JUMP that RULE 6, 7 or 8 made, a POP that RULE 10 or 12 made: as if it had been there. */
    private static void whatARuleMakesIsTakenAnew() {
        EdgeRulesTest.due("INT 0; ZERO a; a: RETURN", "RETURN", 6, 2);
        EdgeRulesTest.due("INT 1; INT 2; LESS a; a: RETURN", "RETURN", 7, 2);
        EdgeRulesTest.due("NULL; NONE a; a: RETURN", "RETURN", 8, 2);
        EdgeRulesTest.due("READ 0 0; ZERO a; RETURN; a: INT 0; ZERO b; TRAP; b: OUT; TRAP".replace("OUT;", "INT 4; OUT;"),
                "READ 0 0; ZERO b; RETURN; b: INT 4; OUT; TRAP", 6, 3, 1, 1);
        EdgeRulesTest.due("INT 4; STORE 9; RETURN", "RETURN", 10, 5);
        EdgeRulesTest.due("READ 0 0; DUP; ZERO a; a: OUT; RETURN", "READ 0 0; OUT; RETURN", 12, 5);
        EdgeRulesTest.due("READ 0 1; DUP; NONE a; a: STORE 1; RETURN", "READ 0 1; POP; RETURN", 12, 5, 10);
    }
}
