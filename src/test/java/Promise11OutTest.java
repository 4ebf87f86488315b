import java.util.Arrays;

public final class Promise11OutTest {
    public static void main(String[] args) {
        theContainer();
        moreThanTheTapeTakes();
        itIsAContainerWithoutFault();
        Kit.finish();
    }

    private static void theContainer() {
        ShrinkHouse x = new ShrinkHouse();
        Kit.due("without", x.out(0), Kit.NONE);
        Kit.read(x, "class 200 0; method 100 1 0 2; INT -16909061; OUT; RETURN");
        Kit.due("without a small program", x.out(0), Kit.NONE);
        x.entry(0);
        Kit.shrink(x, 0);
        int[] bytes = {83, 72, 1, 1, 0, 0, 1, 1, 1, 0, 0, 2, 3, 0, 254, 253, 252, 251, 23, 22};
        Kit.due("all", Arrays.toString(Kit.outs(x)), Arrays.toString(bytes));
        Kit.due("out(-1)", x.out(-1), Kit.NONE);
        Kit.due("out(20)", x.out(20), Kit.NONE);
        Kit.due("out(MAX)", x.out(Integer.MAX_VALUE), Kit.NONE);
        Kit.due("out(MIN)", x.out(Integer.MIN_VALUE), Kit.NONE);
    }

    /** Each of eighty METHODS calls a LEAF of many INTS several times. */
    private static void moreThanTheTapeTakes() {
        StringBuilder text = new StringBuilder();
        for (int c = 0; c < 10; c++) {
            text.append("class 1 0;");
            for (int k = 0; k < 8; k++) {
                text.append("method ").append(k + 1).append(" 1 0 0;");
                if (c == 0 && k == 0) {
                    text.append("INT 7; WRITE 0 0; INT 8; WRITE 0 0; INT 9; WRITE 0 0; INT 7; WRITE 0 0; INT 6;"
                            + "WRITE 0 0; RETURN;");
                    continue;
                }
                text.append("CALL 0 0;".repeat(11));
                int next = c * 8 + k + 1;
                if (next < 80) {
                    text.append("CALL ").append(next / 8).append(' ').append(next % 8).append(';');
                }
                text.append("RETURN;");
            }
        }
        String source = text.toString().replaceFirst("class 1 0;", "class 1 0; field 1 0 1;");
        ShrinkHouse x = Kit.house(source);
        Kit.due("entry(1)", x.entry(1), 0);
        int due = 3 + 10 * 4 + 3 + 79 * 6 + 79 * (11 * 40 + 1) + 78 * 3;
        Kit.due("shrink(12)", Kit.shrink(x, 12), Integer.toString(due));
        Kit.due("put in", x.made(1), 79 * 11);
        Kit.due("instructions", x.size(true, 3), 79 * 111 + 78);
        Kit.due("the last byte", x.out(due - 1), 22);
        Kit.due("behind it", x.out(due), Kit.NONE);
        Kit.due("again", x.again(), true);
        Kit.due("bytes", x.size(false, 4), due);
        Kit.due("the same once more", Kit.shrink(x, 12), Integer.toString(due));
    }

    private static void itIsAContainerWithoutFault() {
        String source = """
                class 9 0
                field 9 0 0
                field 8 2 1
                class 8 1
                method 7 0 3 1
                LOAD 0
                RETURN
                class 7 2
                method 7 0 3 4
                NULL
                RETURN
                method 6 1 0 0
                NEW 1
                SEND 1 0
                NEW 2
                SEND 1 0
                WRITE 0 1
                POP
                RETURN
                """;
        ShrinkHouse x = Kit.house(source);
        x.entry(2);
        Kit.shrink(x, 12);
        ShrinkHouse y = new ShrinkHouse();
        Kit.feed(y, Kit.outs(x));
        Kit.due("read()", y.read(), 0);
        for (int what = 0; what < 5; what++) {
            Kit.due("size", y.size(false, what), x.size(true, what));
        }
    }
}
