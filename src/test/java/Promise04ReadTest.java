public final class Promise04ReadTest {
    private static final String ONE = "class 1 0; field 1 0 1; method 1 1 0 0; INT 5; OUT; RETURN";
    private static final String OTHER = "class 1 0; method 1 1 0 0; RETURN; method 2 1 0 0; TRAP; class 2 1";

    public static void main(String[] args) {
        aProgramIsRead();
        everyFaultIsAnswered();
        aFaultLeavesAllElse();
        aNewProgramBeginsAnew();
        theTapeIsEmptyBehindIt();
        theGreatestContainer();
        Kit.finish();
    }

    private static void aProgramIsRead() {
        ShrinkHouse x = new ShrinkHouse();
        Kit.due("read()", Kit.read(x, OTHER), 0);
        Kit.due("classes", x.size(false, 0), 2);
        Kit.due("methods", x.size(false, 2), 2);
    }

    private static void everyFaultIsAnswered() {
        String head = "class 1 0; method 1 1 0 1; ";
        ShrinkHouse x = new ShrinkHouse();
        Kit.feed(x, 83, 72, 1, 0);
        Kit.due("read()", x.read(), 1);
        Kit.due("read()", Kit.read(x, "class 1 0; field 1 0 0; field 1 0 1"), 2);
        Kit.due("read()", Kit.read(x, head + "POP; RETURN"), 3);
        Kit.due("read()", Kit.read(x, head + "NULL; OUT; RETURN"), 4);
        Kit.due("read()", Kit.read(x, head + "a: NULL; STORE 0; INT 1; DUP; DUP; DUP; DUP; DUP; DUP; DUP; DUP; DUP; DUP; RETURN"), 5);
        Kit.due("read()", Kit.read(x, head + "a: NULL; JUMP a"), 6);
        Kit.due("read()", Kit.read(x, head + "NULL; POP"), 7);
    }

    private static void aFaultLeavesAllElse() {
        ShrinkHouse x = Kit.house(ONE);
        Kit.due("entry(0)", x.entry(0), 0);
        Kit.due("shrink", Kit.shrink(x, 0), "20");
        Kit.due("run", Kit.run(x, false, 0, 10), "0");
        String[] bad = {"class 1 9", "class 1 0; field 1 0 0; field 1 0 1", OTHER + "; method 3 1 0 0; POP; RETURN"};
        for (String source : bad) {
            Kit.due("a fault", Kit.read(x, source) != 0, true);
            Kit.due("size", x.size(false, 3), 3);
            Kit.due("size", x.size(false, 4), 23);
            Kit.due("small size", x.size(true, 4), 20);
            Kit.due("type", x.type(0, 1, 30), 1);
            Kit.due("result", x.result(3), 1);
            Kit.due("output", x.output(0), 5);
            Kit.due("entry(0)", x.entry(0), 0);
        }
        Kit.due("again", x.again(), true);
    }

    private static void aNewProgramBeginsAnew() {
        ShrinkHouse x = Kit.house(ONE);
        x.entry(0);
        Kit.due("shrink", Kit.shrink(x, 0), "20");
        Kit.due("run", Kit.run(x, true, 0, 10), "0");
        Kit.due("read()", Kit.read(x, OTHER), 0);
        Kit.due("small", x.size(true, 0), 0);
        Kit.due("out", x.out(0), Kit.NONE);
        Kit.due("made", x.made(2), 0);
        Kit.due("result", x.result(0), Kit.NONE);
        Kit.due("output", x.output(0), 0);
        Kit.due("no entry", Kit.shrink(x, 0), "throws.IllegalStateException");
        Kit.due("no entry", Kit.run(x, false, 0, 10), "throws.IllegalArgumentException");
        Kit.due("entry(1)", x.entry(1), 0);
        Kit.due("again", x.again(), false);
    }

    private static void theTapeIsEmptyBehindIt() {
        ShrinkHouse x = new ShrinkHouse();
        Kit.due("read()", Kit.read(x, ONE), 0);
        Kit.due("end(1) after a program", x.end(1), false);
        Kit.feed(x, 83, 72, 0);
        Kit.due("read()", x.read(), 1);
        Kit.due("end(1) after a fault", x.end(1), false);
        Kit.due("read() of nothing", x.read(), 1);
        Kit.due("the program stays", x.size(false, 0), 1);
    }

    /** All counts as high as they can be in 4000 bytes: ten classes, six fields, eight methods in each. */
    private static void theGreatestContainer() {
        StringBuilder text = new StringBuilder();
        for (int c = 0; c < 10; c++) {
            text.append("class 255 ").append(c).append(";");
            for (int k = 0; k < 6; k++) {
                text.append("field ").append(255 - k).append(" 10 1;");
            }
            for (int k = 0; k < 8; k++) {
                text.append("method ").append(8 * c + k + 1).append(" 0 11 20 10 10 10;");
                text.append("LOAD 1; STORE 19; ".repeat(k == 0 && c == 0 ? 59 : 7)).append("LOAD 19; RETURN;");
            }
        }
        ShrinkHouse x = Kit.house(text.toString());
        Kit.due("classes", x.size(false, 0), 10);
        Kit.due("fields", x.size(false, 1), 60);
        Kit.due("methods", x.size(false, 2), 80);
        Kit.due("bytes", x.size(false, 4), Kit.bytes(text.toString()).length);
        Kit.due("instructions of the longest", x.method(false, 0, 0, 5), 120);
        Kit.due("number", x.method(false, 9, 7, 6), 79);
        Kit.due("type", x.type(79, 1, 10), 4 + 9);
        Kit.due("type", x.type(79, 1, 11), 4 + 9);
    }
}
