public final class Promise01NewObjectTest {
    public static void main(String[] args) {
        nothingIsThere();
        theTapeIsEmpty();
        besideAnotherOne();
        Kit.finish();
    }

    /** What another object has, be it used before or in between, is not this one's. */
    private static void besideAnotherOne() {
        String source = "class 1 0; method 1 1 0 0; CALL 0 1; RETURN; method 2 1 0 0; INT 7; OUT; TRAP";
        ShrinkHouse x = Kit.shrunk(source, 0, 12);
        Kit.due("run", Kit.run(x, true, 0, 100), "1");
        x.feed(1, 2, 3, 4, 5);
        nothingIsThere();
        theTapeIsEmpty();
        ShrinkHouse y = Kit.house("class 1 0; method 1 1 0 0; RETURN");
        y.entry(0);
        Kit.shrink(y, 0);
        Kit.run(y, false, 0, 100);
        Kit.due("FAULT of another", Kit.read(y, "class 1 0; method 1 1 0 0; POP; RETURN"), 3);
        Kit.due("fault(0)", x.fault(0), 0);
        Kit.due("size", x.size(false, 2), 2);
        Kit.due("size of the small one", x.size(true, 2), 2);
        Kit.due("type", x.type(1, 1, 30), 1);
        Kit.due("out", x.out(2), 1);
        Kit.due("output", x.output(0), 7);
        Kit.due("trace", Kit.traces(x), "1002 0");
        Kit.due("the TAPE", x.end(20), true);
    }

    private static void nothingIsThere() {
        ShrinkHouse x = new ShrinkHouse();
        Kit.due("NONE", ShrinkHouse.NONE, -1);
        Kit.due("fault(0)", x.fault(0), 0);
        for (int what = 1; what < 4; what++) {
            Kit.due("fault", x.fault(what), Kit.NONE);
        }
        for (int what = 0; what < 5; what++) {
            Kit.due("size(false)", x.size(false, what), 0);
            Kit.due("size(true)", x.size(true, what), 0);
        }
        Kit.due("method", x.method(false, 0, 0, 0), Kit.NONE);
        Kit.due("method", x.method(true, 0, 0, 0), Kit.NONE);
        Kit.due("type", x.type(0, 0, 0), Kit.NONE);
        Kit.due("entry", x.entry(0), Kit.NONE);
        Kit.due("shrink", Kit.shrink(x, 0), "throws.IllegalStateException");
        Kit.due("out", x.out(0), Kit.NONE);
        Kit.due("kept", x.kept(0, 0, 0), Kit.NONE);
        Kit.due("made", x.made(0), 0);
        Kit.due("origin", x.origin(0, 0, 0), Kit.NONE);
        Kit.due("run(false)", Kit.run(x, false, 0, 1), "throws.IllegalStateException");
        Kit.due("run(true)", Kit.run(x, true, 0, 1), "throws.IllegalStateException");
        Kit.due("result", x.result(0), Kit.NONE);
        Kit.due("output", x.output(0), 0);
        Kit.due("trace", x.trace(0), Kit.NONE);
        Kit.due("back", x.back(0), Kit.NONE);
        Kit.due("again", x.again(), false);
    }

    private static void theTapeIsEmpty() {
        ShrinkHouse x = new ShrinkHouse();
        Kit.due("end(1)", x.end(1), false);
        Kit.due("end(0)", x.end(0), true);
        Kit.due("read()", x.read(), 1);
        Kit.due("fault(1)", x.fault(1), 0);
    }
}
