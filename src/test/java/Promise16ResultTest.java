public final class Promise16ResultTest {
    private static final String SOURCE = """
            class 1 0
            method 1 1 0 0
            NEW 0
            POP
            INT 1
            CALL 0 1
            OUT
            RETURN
            method 2 1 1 1 0
            LOAD 0
            INT 0
            CALL 0 2
            RETURN
            method 3 1 1 2 0 0
            LOAD 0
            DUP
            OUT
            LOAD 1
            DIV
            RETURN
            method 4 1 0 0
            RETURN
            method 5 1 0 0
            a: JUMP a
            """;

    public static void main(String[] args) {
        ShrinkHouse x = new ShrinkHouse();
        due(x, -1, -1, -1, -1, -1, -1, -1, -1);
        Kit.read(x, SOURCE);
        due(x, -1, -1, -1, -1, -1, -1, -1, -1);
        x.entry(0);
        x.entry(3);
        x.entry(4);
        due(x, -1, -1, -1, -1, -1, -1, -1, -1);
        Kit.run(x, false, 0, 100);
        due(x, 1, 12, 2, 1, 3, 1, 3, 3);
        Kit.run(x, false, 1, 100);
        due(x, 0, 1, 0, 0, 0, 0, 1, 0);
        Kit.run(x, false, 2, 100);
        due(x, 2, 100, 0, 0, 0, 0, 1, 0);
        // METHODS 2 and 3: METHOD 3 is put in
        Kit.shrink(x, 6);
        due(x, 2, 100, 0, 0, 0, 0, 1, 0);
        Kit.run(x, true, 0, 100);
        due(x, 1, 13, 2, 1, 2, 1, 2, 3);
        x.entry(3);
        Kit.shrink(x, 0);
        due(x, 1, 13, 2, 1, 2, 1, 2, 3);
        Kit.due("told back as it was", Kit.backs(x), "2004 1002 3");
        Kit.due("a fault", Kit.read(x, "class 1 0; method 1 1 0 0; POP; RETURN"), 3);
        due(x, 1, 13, 2, 1, 2, 1, 2, 3);
        x.again();
        due(x, -1, -1, -1, -1, -1, -1, -1, -1);
        Kit.finish();
    }

    private static void due(ShrinkHouse x, int... answers) {
        for (int what = 0; what < answers.length; what++) {
            Kit.due("result(" + what + ")", x.result(what), answers[what]);
        }
        for (int what : new int[] {-1, 8, Integer.MAX_VALUE, Integer.MIN_VALUE}) {
            Kit.due("result(" + what + ")", x.result(what), Kit.NONE);
        }
    }
}
