public final class Promise19BackTest {
    private static final String SOURCE = """
            class 1 0
            field 1 0 1
            method 9 1 0 0
            RETURN
            method 1 1 0 0
            CALL 0 2
            RETURN
            method 2 1 0 0
            INT 1
            INT 2
            ADD
            POP
            READ 0 0
            INT 5
            READ 0 0
            CALL 0 3
            OUT
            RETURN
            method 3 1 1 2 0 0
            LOAD 0
            LOAD 1
            DIV
            RETURN
            """;

    public static void main(String[] args) {
        ShrinkHouse x = new ShrinkHouse();
        Kit.due("without a run", x.back(0), Kit.NONE);
        Kit.read(x, SOURCE);
        x.entry(1);
        x.entry(0);
        Kit.run(x, false, 0, 100);
        Kit.due("of the program as it is", Kit.backs(x), "3002 2007 1000");
        Kit.shrink(x, 0);
        Kit.run(x, true, 0, 100);
        Kit.due("trace", Kit.traces(x), "3002 2003 1000");
        Kit.due("back", Kit.backs(x), "3002 2007 1000");
        Kit.shrink(x, 4);
        Kit.due("the run as it was", Kit.backs(x), "3002 2007 1000");
        Kit.run(x, true, 0, 100);
        Kit.due("trace of two frames", Kit.traces(x), "2007 1000");
        Kit.due("back, three places", Kit.backs(x), "3002 2007 1000");
        Kit.due("back(3)", x.back(3), Kit.NONE);
        Kit.due("back(-1)", x.back(-1), Kit.NONE);
        Kit.due("back(MAX)", x.back(Integer.MAX_VALUE), Kit.NONE);
        Kit.run(x, true, 1, 100);
        Kit.due("no TRAP", x.back(0), Kit.NONE);
        fortyFrames();
        asItWas();
        Kit.finish();
    }

    /** "(as it was; shrink() and entry() leave it)": ORIGINS of another small program do not change what was told back. */
    private static void asItWas() {
        ShrinkHouse x = Kit.house("class 1 0; method 1 1 0 0; CALL 0 1; INT 4; OUT; INT 5; OUT; RETURN; method 2 1 0 0; INT 7;"
                + "INT 0; DIV; OUT; RETURN; method 3 1 0 0; RETURN");
        x.entry(0);
        Kit.shrink(x, 12);
        Kit.run(x, true, 0, 100);
        dueAsItWas(x, "2", "1002 0");
        // there 2 is an OUT of the ENTRY's own
        Kit.shrink(x, 0);
        dueAsItWas(x, "2", "1002 0");
        Kit.due("a new ENTRY", x.entry(2), 1);
        dueAsItWas(x, "2", "1002 0");
        Kit.shrink(x, 4);
        dueAsItWas(x, "2", "1002 0");
        Kit.run(x, true, 0, 100);
        dueAsItWas(x, "1002 0", "1002 0");
        Kit.shrink(x, 12);
        dueAsItWas(x, "1002 0", "1002 0");
        Kit.due("shrink(13)", Kit.shrink(x, 13), "throws.IllegalArgumentException");
        dueAsItWas(x, "1002 0", "1002 0");
        Kit.due("a FAULT", x.read(), 1);
        dueAsItWas(x, "1002 0", "1002 0");
    }

    private static void dueAsItWas(ShrinkHouse x, String trace, String back) {
        Kit.due("trace", Kit.traces(x), trace);
        Kit.due("back", Kit.backs(x), back);
        Kit.due("result(4)", x.result(4), trace.split(" ").length);
        Kit.due("result(7)", x.result(7), back.split(" ").length);
        Kit.due("no more places", x.back(x.result(7)), Kit.NONE);
    }

    /** With what was put in, each frame but the last may be told back as one more place than it is. */
    private static void fortyFrames() {
        ShrinkHouse x = Kit.house("class 1 0; method 1 1 0 0; CALL 0 0; RETURN");
        x.entry(0);
        Kit.shrink(x, 12);
        Kit.run(x, true, 0, 1000);
        Kit.due("frames", x.result(4), 40);
        Kit.due("places", x.result(7), 40);
        Kit.due("the last one", x.back(39), 0);
        Kit.due("none", x.back(40), Kit.NONE);
    }
}
