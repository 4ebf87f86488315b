public final class Promise18TraceTest {
    private static final String SOURCE = """
            class 1 0
            method 7 1 0 0
            RETURN
            method 1 1 0 1
            NEW 1
            STORE 0
            NULL
            POP
            LOAD 0
            SEND 0 2
            RETURN
            method 2 0 0 1
            RETURN
            class 2 1
            method 2 0 0 1
            LOAD 0
            CALL 1 1
            RETURN
            method 3 0 0 1
            NULL
            POP
            TRAP
            """;

    public static void main(String[] args) {
        ShrinkHouse x = new ShrinkHouse();
        Kit.due("without a run", x.trace(0), Kit.NONE);
        Kit.read(x, SOURCE);
        x.entry(1);
        x.entry(0);
        Kit.run(x, false, 0, 100);
        Kit.due("innermost first", Kit.traces(x), "4002 3001 1005");
        Kit.due("trace(3)", x.trace(3), Kit.NONE);
        Kit.due("trace(-1)", x.trace(-1), Kit.NONE);
        Kit.due("trace(MAX)", x.trace(Integer.MAX_VALUE), Kit.NONE);
        Kit.shrink(x, 0);
        Kit.due("shrink() leaves it", Kit.traces(x), "4002 3001 1005");
        Kit.run(x, true, 0, 100);
        // the METHODS are the same ones; NULL and POP went
        Kit.due("in the small program", Kit.traces(x), "4000 3001 1003");
        Kit.run(x, false, 1, 100);
        Kit.due("no TRAP", x.trace(0), Kit.NONE);
        Kit.run(x, false, 0, 3);
        Kit.due("CUT", x.trace(0), Kit.NONE);
        Kit.finish();
    }
}
