public final class Promise07MethodTest {
    private static final String SOURCE = """
            class 7 0
            class 8 1
            method 30 1 0 4
            NEW 2
            NULL
            INT 1
            CALL 2 0
            POP
            RETURN
            method 31 1 1 0
            INT 1
            RETURN
            class 9 2
            method 200 0 4 5 2 0
            NULL
            RETURN
            """;

    public static void main(String[] args) {
        ShrinkHouse x = Kit.house(SOURCE);
        dueMethod(x, false, 1, 0, 30, 1, 0, 0, 4, 6, 0);
        dueMethod(x, false, 1, 1, 31, 1, 1, 0, 0, 2, 1);
        dueMethod(x, false, 2, 0, 200, 0, 4, 2, 5, 2, 2);
        dueMethod(x, true, 0, 0, -1, -1, -1, -1, -1, -1, -1);
        int[][] none = {{0, 0}, {1, 2}, {1, -1}, {2, 1}, {3, 0}, {-1, 0}, {Integer.MAX_VALUE, Integer.MIN_VALUE}};
        for (int[] one : none) {
            dueMethod(x, false, one[0], one[1], -1, -1, -1, -1, -1, -1, -1);
        }
        x.entry(0);
        Kit.shrink(x, 0);
        dueMethod(x, true, 1, 0, 1, 1, 0, 0, 4, 6, 0);
        dueMethod(x, true, 2, 0, 1 + 1, 0, 4, 2, 5, 2, 1);
        dueMethod(x, true, 1, 1, -1, -1, -1, -1, -1, -1, -1);
        dueMethod(x, false, 1, 1, 31, 1, 1, 0, 0, 2, 1);
        Kit.finish();
    }

    private static void dueMethod(ShrinkHouse x, boolean small, int c, int m, int... answers) {
        for (int what = 0; what < answers.length; what++) {
            Kit.due("method(" + small + ", " + c + ", " + m + ", " + what + ")", x.method(small, c, m, what),
                    answers[what]);
        }
        Kit.due("method, what 7", x.method(small, c, m, 7), Kit.NONE);
        Kit.due("method, what -1", x.method(small, c, m, -1), Kit.NONE);
    }
}
