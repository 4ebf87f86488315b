import java.util.LinkedHashMap;
import java.util.Map;

/** Objects at different times of their lives, each by the calls that brought it there. */
final class Stages {
    /** METHODS: 0 traps in the LEAF 1, 2 is not STATIC, 3 has a PARAM, 4 SENDS, 5 puts out. */
    static final String PROGRAM = """
            class 1 0
            field 1 0 1
            method 1 1 0 0
            INT 5
            OUT
            INT 1
            READ 0 0
            CALL 0 1
            OUT
            RETURN
            method 2 1 1 2 0 0
            LOAD 0
            LOAD 1
            DIV
            RETURN
            method 3 0 0 1
            RETURN
            method 4 1 0 1 0
            RETURN
            method 5 1 0 0
            NEW 1
            SEND 0 2
            RETURN
            TRAP
            class 2 1
            method 6 1 0 0
            INT 3
            INT 4
            ADD
            OUT
            RETURN
            """;
    static final int METHODS = 6;
    static final String FAULTY = "class 1 0; method 1 1 0 0; NULL; RETURN; method 2 1 0 0; NULL; OUT; RETURN";

    private Stages() {
    }

    static void program(ShrinkHouse x) {
        Kit.read(x, PROGRAM);
    }

    static void entries(ShrinkHouse x) {
        program(x);
        x.entry(4);
        x.entry(0);
    }

    static void shrunk(ShrinkHouse x) {
        entries(x);
        Kit.shrink(x, 4);
    }

    static void ran(ShrinkHouse x) {
        shrunk(x);
        Kit.run(x, false, 1, 100);
    }

    static void ranSmall(ShrinkHouse x) {
        shrunk(x);
        Kit.run(x, true, 1, 100);
    }

    static void faulty(ShrinkHouse x) {
        ranSmall(x);
        Kit.read(x, FAULTY);
        Kit.feed(x, 83, 72, 1, 1, 0, 0, 0);
    }

    static void again(ShrinkHouse x) {
        ranSmall(x);
        x.again();
        Kit.feed(x, 83, 72, 1, 1, 0, 7);
    }

    static void six(ShrinkHouse x) {
        StringBuilder text = new StringBuilder("class 1 0;");
        for (int k = 1; k <= 8; k++) {
            text.append("method ").append(k).append(" 1 0 0; INT ").append(k).append("; OUT; RETURN;");
        }
        Kit.read(x, text.toString());
        for (int m = 7; m > 1; m--) {
            x.entry(m);
        }
        Kit.shrink(x, 0);
        Kit.run(x, true, 3, 100);
    }

    /**
     * Programs with as many of all as there is room for were read, shrunk and run: their rows may not be seen later. It
     * has more than half of the calls that an object is used for.
     */
    static void full(ShrinkHouse x) {
        StringBuilder text = new StringBuilder();
        for (int c = 0; c < 10; c++) {
            text.append("class 255 ").append(c).append(';');
            for (int k = 0; k < 6; k++) {
                text.append("field ").append(255 - k).append(" 10 ").append(k % 2).append(';');
            }
            for (int k = 0; k < 8; k++) {
                int name = 255 - 8 * c - k;
                text.append(k < 7 ? "method " + name + " 0 11 20 10 10 10;" : "method " + name + " 1 0 20;");
                text.append("NULL;".repeat(10)).append("JUMP 12; TRAP; STORE 19; POP; POP; RETURN; TRAP; TRAP;");
            }
        }
        int[] bytes = Kit.bytes(text.toString());
        for (int n = 0; n < 2; n++) {
            Kit.feed(x, bytes);
            Kit.due("read()", x.read(), 0);
        }
        for (int c = 0; c < 6; c++) {
            Kit.due("entry", x.entry(8 * c + 7), c);
        }
        Kit.shrink(x, 12);
        Kit.run(x, true, 5, 100);
        Kit.due("again()", x.again(), true);
        Kit.shrink(x, 0);
        Kit.run(x, true, 0, 3);
    }

    static Map<String, State.Story> all() {
        Map<String, State.Story> all = new LinkedHashMap<>();
        all.put("new", x -> {
        });
        all.put("a TAPE", x -> Kit.feed(x, Kit.bytes(PROGRAM)));
        all.put("a program", Stages::program);
        all.put("ENTRIES", Stages::entries);
        all.put("a small program", Stages::shrunk);
        all.put("a run", Stages::ran);
        all.put("a run of the small program", Stages::ranSmall);
        all.put("a FAULT and a TAPE", Stages::faulty);
        all.put("again", Stages::again);
        all.put("six ENTRIES", Stages::six);
        return all;
    }
}
