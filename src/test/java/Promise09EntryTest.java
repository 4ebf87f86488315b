public final class Promise09EntryTest {
    public static void main(String[] args) {
        whichOnes();
        atMostSix();
        theSmallProgramGoes();
        Kit.finish();
    }

    private static void whichOnes() {
        ShrinkHouse x = new ShrinkHouse();
        Kit.due("without a program", x.entry(0), Kit.NONE);
        Kit.due("read()", Kit.read(x, """
                class 1 0
                method 1 0 0 1
                RETURN
                method 2 1 0 1 0
                RETURN
                method 3 1 1 0
                INT 1
                RETURN
                class 2 0
                method 1 1 0 0
                RETURN
                """), 0);
        Kit.due("not STATIC", x.entry(0), Kit.NONE);
        Kit.due("with PARAMS", x.entry(1), Kit.NONE);
        Kit.due("none such", x.entry(4), Kit.NONE);
        Kit.due("none such", x.entry(-1), Kit.NONE);
        Kit.due("nothing happened", Kit.shrink(x, 0), "throws.IllegalStateException");
        Kit.due("of the second CLASS", x.entry(3), 0);
        Kit.due("with a RESULT", x.entry(2), 1);
        Kit.due("one already", x.entry(3), 0);
        Kit.due("one already", x.entry(2), 1);
        Kit.due("no ENTRY 2", Kit.run(x, false, 2, 1), "throws.IllegalArgumentException");
    }

    private static void atMostSix() {
        StringBuilder text = new StringBuilder("class 1 0;");
        for (int k = 1; k <= 8; k++) {
            text.append("method ").append(k).append(" 1 0 0; INT ").append(k).append("; OUT; RETURN;");
        }
        ShrinkHouse x = Kit.house(text.toString());
        for (int e = 0; e < 6; e++) {
            Kit.due("entry", x.entry(7 - e), e);
        }
        Kit.shrink(x, 0);
        Kit.due("there are 6", x.entry(0), Kit.NONE);
        Kit.due("the small program stays", x.size(true, 2), 6);
        Kit.due("one of the 6", x.entry(2), 5);
        for (int e = 0; e < 6; e++) {
            Kit.due("run", Kit.run(x, false, e, 10), "0");
            Kit.due("output", x.output(0), 8 - e);
            Kit.due("run", Kit.run(x, true, e, 10), "0");
            Kit.due("output", x.output(0), 8 - e);
        }
    }

    private static void theSmallProgramGoes() {
        ShrinkHouse x = Kit.house("class 1 0; method 1 1 0 0; RETURN; method 2 1 0 0; TRAP; method 3 0 0 1; RETURN");
        x.entry(0);
        Kit.shrink(x, 0);
        Kit.run(x, true, 0, 10);
        x.entry(0);
        x.entry(2);
        x.entry(9);
        Kit.due("no ENTRY came", x.size(true, 0), 1);
        x.entry(1);
        Kit.due("an ENTRY came", x.size(true, 0), 0);
        Kit.due("out", x.out(0), Kit.NONE);
        Kit.due("again", x.again(), false);
        Kit.due("the run stays", x.result(1), 1);
        Kit.due("run(true)", Kit.run(x, true, 0, 10), "throws.IllegalStateException");
        Kit.due("the run stays", x.result(1), 1);
    }
}
