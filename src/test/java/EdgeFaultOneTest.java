import java.util.Arrays;

/** Terms 1, FAULT 1: the end, what is behind all, and the numbers of FIELDS and METHODS that instructions tell. */
public final class EdgeFaultOneTest {
    /** Each sort of thing that a CONTAINER can have; its instructions are not reached but for the first. */
    private static final String BASE = """
            class 9 0
            field 1 0 0
            field 2 2 1
            class 8 1
            method 1 1 2 3 0 1 2
            TRAP
            INT -2
            NULL
            LOAD 2
            JUMP 4
            NEW 1
            GET 0 0
            CALL 1 0
            RETURN
            """;

    public static void main(String[] args) {
        theEnd();
        behindAll();
        anEmptyTape();
        theFullTape();
        fieldsThatAClassHasNot();
        methodsThatAClassHasNot();
        ofItsOwn();
        staticOrNot();
        allBeingRead();
        theFirstNumber();
        aheadOfNames();
        Kit.finish();
    }

    private static void due(String what, int[] bytes, int place) {
        Kit.dueFault(what, bytes, 1, place, Kit.NONE, Kit.NONE);
    }

    private static void due(String source, int place) {
        due(source, Kit.bytes(source), place);
    }

    /** "or the end": a CONTAINER that ends too early does so at each of its bytes. */
    private static void theEnd() {
        int[] bytes = Kit.bytes(BASE);
        Kit.dueFault("all of it", bytes, 0, Kit.NONE, Kit.NONE, Kit.NONE);
        for (int n = 0; n < bytes.length; n++) {
            due("it ends at " + n, Arrays.copyOf(bytes, n), n);
        }
    }

    /** "the first one behind all"; "Behind the last CLASS there is nothing." */
    private static void behindAll() {
        int[] bytes = Kit.bytes(BASE);
        for (int value : new int[] {0, 1, 83, 255}) {
            due("one behind all", Kit.joined(bytes, new int[] {value}), bytes.length);
            due("many behind all", Kit.joined(bytes, Kit.repeated(50, value)), bytes.length);
        }
        due("two of them", Kit.joined(bytes, bytes), bytes.length);
    }

    private static void anEmptyTape() {
        due("nothing at all", new int[0], 0);
    }

    /** Of as many CLASSES, FIELDS, METHODS and bytes as there can be: 4000 bytes are read, 3999 of them are not. */
    private static void theFullTape() {
        StringBuilder text = new StringBuilder();
        for (int c = 0; c < 10; c++) {
            text.append("class 255 ").append(c).append(';');
            for (int k = 0; k < 6; k++) {
                text.append("field ").append(255 - k).append(" 10 1;");
            }
            for (int k = 0; k < 8; k++) {
                text.append("method ").append(8 * c + k + 1).append(" 0 11 20 10 10 10;");
                text.append("NULL; POP;".repeat(c == 9 && k == 7 ? 58 : 12)).append("LOAD 3; RETURN;");
            }
        }
        int[] bytes = Kit.bytes(text.toString());
        int missing = 4000 - bytes.length;
        Kit.due("room for unreached TRAPS", missing > 0 && missing <= 79 * 80, true);
        int method = 0;
        StringBuilder full = new StringBuilder();
        for (String line : text.toString().split(";")) {
            full.append(line).append(';');
            if (line.trim().equals("RETURN") && method++ < 79 && missing > 0) {
                int many = Math.min(80, missing);
                full.append("TRAP;".repeat(many));
                missing -= many;
            }
        }
        int[] all = Kit.bytes(full.toString());
        Kit.due("a full TAPE", all.length, 4000);
        ShrinkHouse x = Kit.dueFault("4000 bytes", all, 0, Kit.NONE, Kit.NONE, Kit.NONE);
        Kit.due("CLASSES", x.size(false, 0), 10);
        Kit.due("FIELDS", x.size(false, 1), 60);
        Kit.due("METHODS", x.size(false, 2), 80);
        Kit.due("bytes", x.size(false, 4), 4000);
        Kit.due("the last METHOD", x.method(false, 9, 7, 6), 79);
        Kit.due("its instructions", x.method(false, 9, 7, 5), 118);
        due("3999 bytes", Arrays.copyOf(all, 3999), 3999);
        all[3999] = 27;
        due("the last byte", all, 3999);
    }

    private static String fields(int many, int isStatic) {
        StringBuilder text = new StringBuilder("class 1 0;");
        for (int k = 1; k <= many; k++) {
            text.append("field ").append(k).append(" 0 ").append(isStatic).append(';');
        }
        return text.append("method 1 1 0 0; TRAP;").toString();
    }

    /** "the first number of a FIELD .. that its CLASS has not" */
    private static void fieldsThatAClassHasNot() {
        String[] ops = {"GET", "PUT", "READ", "WRITE"};
        for (int op = 0; op < 4; op++) {
            for (int many : new int[] {0, 1, 5, 6}) {
                String head = fields(many, op / 2) + ops[op] + " 0 ";
                for (int k : new int[] {0, 1, many - 1, many, 6, 7, 255}) {
                    if (k >= 0 && k < many) {
                        Kit.dueNoFault(head + k);
                    } else if (k >= 0) {
                        due(head + k, Kit.bytes(head + k).length - 1);
                    }
                }
            }
        }
    }

    /** ".. or METHOD (told by an instruction) that its CLASS has not" */
    private static void methodsThatAClassHasNot() {
        for (String op : new String[] {"CALL", "SEND"}) {
            for (int many : new int[] {0, 1, 7, 8}) {
                StringBuilder text = new StringBuilder("class 1 0;");
                for (int k = 1; k <= many; k++) {
                    text.append("method ").append(k).append(" 0 0 1; TRAP;");
                }
                String head = text + "class 2 0; method 1 1 0 0; TRAP;" + op + " 0 ";
                for (int k : new int[] {0, 1, many - 1, many, 8, 9, 255}) {
                    if (k >= 0 && k < many) {
                        Kit.dueNoFault(head + k);
                    } else if (k >= 0) {
                        due(head + k, Kit.bytes(head + k).length - 1);
                    }
                }
            }
        }
    }

    /** "one that this CLASS has itself": not one above it or below it */
    private static void ofItsOwn() {
        String above = "class 1 0; field 1 0 0; field 2 0 1; method 1 0 0 1; TRAP; class 2 1; method 2 1 0 0; TRAP;";
        String below = "class 1 0; class 2 1; field 1 0 0; field 2 0 1; method 1 0 0 1; TRAP; method 2 1 0 0; TRAP;";
        for (String told : new String[] {"GET %d 0", "PUT %d 0", "READ %d 1", "WRITE %d 1", "CALL %d 0", "SEND %d 0"}) {
            Kit.dueNoFault(above + String.format(told, 0));
            Kit.dueNoFault(below + String.format(told, 1));
            String wrong = below + String.format(told, 0);
            due(wrong, Kit.bytes(wrong).length - 1);
        }
        for (String told : new String[] {"GET 1 0", "PUT 1 0", "READ 1 1", "WRITE 1 1", "CALL 1 1", "SEND 1 1"}) {
            due(above + told, Kit.bytes(above + told).length - 1);
        }
    }

    /** "or that is STATIC, or is not, against its OP" */
    private static void staticOrNot() {
        String head = "class 1 0; field 1 0 0; field 2 0 1; method 1 0 0 1; TRAP; method 2 1 0 0; TRAP;";
        String[] can = {"GET 0 0", "PUT 0 0", "READ 0 1", "WRITE 0 1", "CALL 0 0", "CALL 0 1", "SEND 0 0"};
        String[] cannot = {"GET 0 1", "PUT 0 1", "READ 0 0", "WRITE 0 0", "SEND 0 1"};
        for (String told : can) {
            Kit.dueNoFault(head + told);
        }
        for (String told : cannot) {
            due(head + told, Kit.bytes(head + told).length - 1);
        }
    }

    /** "then, all being read": any byte that can't be there, or the end, or one behind all, is told ahead of them. */
    private static void allBeingRead() {
        String source = "class 1 0; method 1 1 0 0; TRAP; READ 0 9; TRAP";
        int[] bytes = Kit.bytes(source);
        due(source, bytes.length - 2);
        due("behind all", Kit.joined(bytes, new int[] {0}), bytes.length);
        due("the end", Arrays.copyOf(bytes, bytes.length - 1), bytes.length - 1);
        bytes[bytes.length - 1] = 27;
        due("no OP", bytes, bytes.length - 1);
    }

    private static void theFirstNumber() {
        String head = "class 1 0; field 1 0 1; method 1 1 0 0; TRAP; ";
        int first = Kit.bytes(head + "READ 0 9").length - 1;
        due(head + "READ 0 9; SEND 0 9; CALL 0 9", first);
        due(head + "SEND 0 0; READ 0 9", first);
        due(head + "READ 0 0; READ 0 9", first + 3);
        // by bytes, not by sorts or METHODS' CLASSES
        due(head + "CALL 0 9; class 2 0; method 1 1 0 0; READ 0 9; TRAP", first);
    }

    /** FAULT 1 is ahead of FAULT 2, and so of all that follow. */
    private static void aheadOfNames() {
        String head = "class 1 0; field 1 0 0; field 1 0 0; method 1 1 0 0; POP; ";
        due(head + "READ 0 9", Kit.bytes(head + "READ 0 9").length - 1);
        Kit.dueFault(head + "GET 0 0", 2, 0, 1, 0);
    }
}
