public final class Promise01NewObjectTest {
    public static void main(String[] args) {
        nothingIsThere();
        theTapeIsEmpty();
        Kit.finish();
    }

    private static void nothingIsThere() {
        ShrinkHouse x = new ShrinkHouse();
        Kit.due("NONE", ShrinkHouse.NONE, -1);
        Kit.due("fault(0)", x.fault(0), 0);
        for (int what = 1; what < 4; what++) {
            Kit.due("fault", x.fault(what), Kit.NONE);
        }
        for (int what = 0; what < 5; what++) {
            Kit.due("size(false)", x.size(false, what), 0);
            Kit.due("size(true)", x.size(true, what), 0);
        }
        Kit.due("method", x.method(false, 0, 0, 0), Kit.NONE);
        Kit.due("method", x.method(true, 0, 0, 0), Kit.NONE);
        Kit.due("type", x.type(0, 0, 0), Kit.NONE);
        Kit.due("entry", x.entry(0), Kit.NONE);
        Kit.due("shrink", Kit.shrink(x, 0), "throws.IllegalStateException");
        Kit.due("out", x.out(0), Kit.NONE);
        Kit.due("kept", x.kept(0, 0, 0), Kit.NONE);
        Kit.due("made", x.made(0), 0);
        Kit.due("origin", x.origin(0, 0, 0), Kit.NONE);
        Kit.due("run(false)", Kit.run(x, false, 0, 1), "throws.IllegalStateException");
        Kit.due("run(true)", Kit.run(x, true, 0, 1), "throws.IllegalStateException");
        Kit.due("result", x.result(0), Kit.NONE);
        Kit.due("output", x.output(0), 0);
        Kit.due("trace", x.trace(0), Kit.NONE);
        Kit.due("back", x.back(0), Kit.NONE);
        Kit.due("again", x.again(), false);
    }

    private static void theTapeIsEmpty() {
        ShrinkHouse x = new ShrinkHouse();
        Kit.due("end(1)", x.end(1), false);
        Kit.due("end(0)", x.end(0), true);
        Kit.due("read()", x.read(), 1);
        Kit.due("fault(1)", x.fault(1), 0);
    }
}
