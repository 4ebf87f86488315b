/** Terms 1, FAULT 2: NAMES that can't stand side by side, and the nearest ones that can. */
public final class EdgeNamesTest {
    public static void main(String[] args) {
        fieldsOfOneRow();
        methodsOfOneRow();
        rowsApart();
        sameFaceAbove();
        otherFaceAbove();
        staticAbove();
        howFarAbove();
        notAbove();
        theOrder();
        aheadOfAllThatFollow();
        Kit.finish();
    }

    private static void due(String source, int c, int row, int sort) {
        Kit.dueFault(source, 2, c, row, sort);
    }

    /** "one whose NAME one ahead of it in that row has", of FIELDS: the later one is told, whatever else it is. */
    private static void fieldsOfOneRow() {
        due("class 1 0; field 4 0 0; field 4 0 0", 0, 1, 0);
        due("class 1 0; field 4 0 0; field 4 1 1", 0, 1, 0);
        due("class 1 0; field 255 0 0; field 2 0 0; field 3 0 0; field 4 0 0; field 5 0 0; field 255 0 0", 0, 5, 0);
        due("class 1 0; field 1 0 0; field 2 0 0; field 3 0 0; field 4 0 0; field 5 0 0; field 5 0 0", 0, 5, 0);
        Kit.dueNoFault("class 1 0; field 1 0 0; field 2 0 0; field 3 0 0; field 4 0 0; field 5 0 0; field 255 0 0");
        // the first of two
        due("class 1 0; field 1 0 0; field 2 0 0; field 2 0 0; field 1 0 0", 0, 2, 0);
    }

    private static String method(int name, int isStatic, String more) {
        return "method " + name + " " + isStatic + " " + more + "; TRAP;";
    }

    /** In one row METHODS of one NAME can't be, though they had the same PARAMS, or other ones. */
    private static void methodsOfOneRow() {
        due("class 1 0;" + method(4, 1, "0 0") + method(4, 1, "0 0"), 0, 1, 1);
        due("class 1 0;" + method(4, 0, "0 1") + method(4, 0, "0 1"), 0, 1, 1);
        due("class 1 0;" + method(4, 0, "0 1") + method(4, 0, "1 4 0 0"), 0, 1, 1);
        due("class 1 0;" + method(4, 0, "0 1") + method(4, 1, "0 0"), 0, 1, 1);
        StringBuilder eight = new StringBuilder("class 1 0;");
        for (int k = 1; k <= 7; k++) {
            eight.append(method(k, 1, "0 0"));
        }
        Kit.dueNoFault(eight + method(8, 1, "0 0"));
        due(eight + method(1, 1, "0 0"), 0, 7, 1);
        due(eight + method(7, 1, "0 0"), 0, 7, 1);
    }

    /** A FIELD may have a METHOD's NAME, a FIELD that of one above, a CLASS that of another. */
    private static void rowsApart() {
        Kit.dueNoFault("class 1 0; field 4 0 0;" + method(4, 1, "0 0"));
        Kit.dueNoFault("class 1 0; field 4 0 0; class 2 1; field 4 1 1");
        Kit.dueNoFault("class 1 0; class 1 1; class 1 0");
    }

    private static final String A = "class 1 0; class 2 0; class 3 0;";

    private static String above(String face, String other) {
        return A + method(7, 0, face) + "class 4 3;" + method(7, 0, other);
    }

    /** "unless both are not STATIC and have the same RESULT and TYPES of PARAMS" */
    private static void sameFaceAbove() {
        for (String face : new String[] {"0 20", "1 20", "2 20", "4 20 0", "3 20 0 1 2", "0 20 3 3 3"}) {
            Kit.dueNoFault(above(face, face));
        }
        // LOCALS and code are not looked at
        Kit.dueNoFault(above("0 1", "0 20"));
        Kit.dueNoFault(A + "method 7 0 1 1; INT 1; RETURN; class 4 3; method 7 0 1 1; TRAP; TRAP");
    }

    private static void otherFaceAbove() {
        String[][] faces = {{"0 4", "1 4"}, {"1 4", "0 4"}, {"1 4", "2 4"}, {"2 4", "3 4"}, {"5 4", "4 4"},
            {"0 4", "0 4 0"}, {"0 4 0", "0 4"}, {"0 4 0 0", "0 4 0 0 0"}, {"0 4 0 0 0", "0 4 0 0"},
            {"0 4 0 0 0", "0 4 1 0 0"}, {"0 4 0 0 0", "0 4 0 1 0"}, {"0 4 0 0 0", "0 4 0 0 1"}, {"0 4 2", "0 4 3"},
            {"0 4 1", "0 4 4"}};
        for (String[] pair : faces) {
            due(above(pair[0], pair[1]), 3, 0, 1);
        }
    }

    private static void staticAbove() {
        due(A + method(7, 1, "0 1") + "class 4 3;" + method(7, 0, "0 1"), 3, 0, 1);
        due(A + method(7, 0, "0 1") + "class 4 3;" + method(7, 1, "0 1"), 3, 0, 1);
        due(A + method(7, 1, "0 1") + "class 4 3;" + method(7, 1, "0 1"), 3, 0, 1);
        Kit.dueNoFault(A + method(7, 1, "0 1") + "class 4 3;" + method(8, 1, "0 1"));
    }

    /** "a METHOD whose NAME one in a CLASS above has": at any height of ten CLASSES in a row. */
    private static void howFarAbove() {
        for (int top = 0; top < 9; top++) {
            StringBuilder text = new StringBuilder();
            for (int c = 0; c < 10; c++) {
                text.append("class 1 ").append(c).append(';').append(c == top ? method(7, 0, "0 1") : "");
            }
            Kit.dueNoFault(text + method(7, 0, "0 1"));
            due(text + method(7, 0, "1 1"), 9, 0, 1);
        }
        // the nearest one agrees, the one above it, of which that has been told before, does not
        due("class 1 0;" + method(7, 0, "0 1") + "class 2 1;" + method(7, 0, "1 1") + "class 3 2;" + method(7, 0, "1 1"),
                1, 0, 1);
    }

    private static void notAbove() {
        Kit.dueNoFault("class 1 0;" + method(7, 1, "0 0") + "class 2 0;" + method(7, 1, "1 0"));
        Kit.dueNoFault("class 1 0; class 2 1;" + method(7, 1, "0 0") + "class 3 1;" + method(7, 0, "1 3 0"));
    }

    /** "by CLASSES, of one first FIELDS, then METHODS, in order" */
    private static void theOrder() {
        String twoFields = "field 1 0 0; field 1 0 0;";
        String twoMethods = method(1, 1, "0 0") + method(1, 1, "0 0");
        due("class 1 0;" + twoFields + twoMethods, 0, 1, 0);
        due("class 1 0;" + twoMethods + "class 2 0;" + twoFields, 0, 1, 1);
        due("class 1 0; class 2 0;" + twoFields + "class 3 0;" + twoFields, 1, 1, 0);
        // in order of METHODS: one that clashes above it, ahead of one that clashes in its row
        due("class 1 0;" + method(1, 1, "0 0") + "class 2 1;" + method(1, 1, "0 0") + method(2, 1, "0 0")
                + method(2, 1, "0 0"), 1, 0, 1);
        due("class 1 0;" + method(1, 1, "0 0") + "class 2 1;" + method(2, 1, "0 0") + method(2, 1, "0 0")
                + method(1, 1, "0 0"), 1, 1, 1);
    }

    /** "(ahead of all that follow)": FAULTS 3 to 7 of a METHOD ahead of it are not told. */
    private static void aheadOfAllThatFollow() {
        String two = "class 2 0; field 1 0 0; field 1 0 0";
        String one = "class 2 0; field 1 0 0; field 2 0 0";
        String[] codes = {"POP; TRAP", "NULL; OUT; TRAP", "INT 1;".repeat(11) + "TRAP", "a: NULL; JUMP a", "NULL"};
        int[] places = {0, 1, 10, 1, 0};
        for (int k = 0; k < codes.length; k++) {
            String head = "class 1 0; method 1 1 0 0;" + codes[k] + ";";
            due(head + two, 1, 1, 0);
            Kit.dueFault(head + one, 3 + k, 0, 0, places[k]);
        }
    }
}
