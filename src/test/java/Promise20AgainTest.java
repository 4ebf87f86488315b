public final class Promise20AgainTest {
    private static final String SOURCE = """
            class 50 0
            field 1 0 1
            method 9 1 0 0
            TRAP
            method 8 1 0 1
            CALL 1 0
            READ 0 0
            CALL 1 1
            RETURN
            method 7 1 0 0
            INT 3
            OUT
            RETURN
            class 60 1
            method 6 1 0 2
            INT 1
            INT 2
            ADD
            WRITE 0 0
            RETURN
            method 5 1 0 1 0
            LOAD 0
            OUT
            RETURN
            """;

    public static void main(String[] args) {
        ShrinkHouse x = new ShrinkHouse();
        Kit.due("without a small program", x.again(), false);
        Kit.read(x, SOURCE);
        x.entry(2);
        x.entry(1);
        Kit.due("without a small program", x.again(), false);
        Kit.run(x, false, 1, 100);
        Kit.due("nothing happens", x.again(), false);
        Kit.due("the run stays", x.result(0), 0);
        Kit.due("the program stays", x.size(false, 2), 5);
        Kit.due("the ENTRIES stay", x.entry(1), 1);
        Kit.shrink(x, 0);
        x.feed(1, 2, 3, 4, 5);
        Kit.due("again", x.again(), true);
        Kit.due("the TAPE stays", x.end(20), true);
        Kit.due("fault() stays", x.fault(0), 0);
        Kit.due("no run", x.result(0), Kit.NONE);
        Kit.due("no small one", x.size(true, 0), 0);
        Kit.due("no small one", x.again(), false);
        Kit.due("the first ENTRY", x.entry(1), 0);
        Kit.due("the second ENTRY", x.entry(0), 1);
        Kit.due("run", Kit.run(x, false, 0, 100), "0");
        Kit.due("outputs", Kit.outputs(x), "3");
        Kit.due("run", Kit.run(x, false, 1, 100), "0");
        Kit.due("outputs", Kit.outputs(x), "3");
        once(x);
        sameAsRead();
        Kit.finish();
    }

    /** All that is told of the program is as read() of its bytes has it. */
    private static void sameAsRead() {
        State.Story shrunk = x -> {
            Kit.read(x, SOURCE);
            x.entry(2);
            x.entry(1);
            Kit.shrink(x, 0);
        };
        int[] small = State.outs(shrunk);
        State.Story read = x -> {
            Kit.feed(x, small);
            Kit.due("read()", x.read(), 0);
            x.entry(1);
            x.entry(0);
        };
        State.dueSame("again() and read()", State.of(read), State.of(State.then(shrunk, ShrinkHouse::again)));
    }

    /** From the small program a smaller one is made; its ORIGIN is in the small one. */
    private static void once(ShrinkHouse x) {
        Kit.shrink(x, 12);
        Kit.due("put in", x.made(1), 2);
        Kit.dueSmall(x, "a smaller one", """
                class 1 0
                field 1 0 1
                method 1 1 0 4
                INT 3
                WRITE 0 0
                READ 0 0
                STORE 3
                LOAD 3
                OUT
                RETURN
                method 2 1 0 0
                INT 3
                OUT
                RETURN
                """);
        Kit.due("origin", Kit.origins(x, 0, 0), "2000 0");
        Kit.due("origin", Kit.origins(x, 0, 5), "3001 2");
        Kit.due("again", x.again(), true);
        Kit.due("run", Kit.run(x, false, 1, 100), "0");
        Kit.due("outputs", Kit.outputs(x), "3");
    }
}
