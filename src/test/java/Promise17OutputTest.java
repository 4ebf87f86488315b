public final class Promise17OutputTest {
    public static void main(String[] args) {
        ShrinkHouse x = Kit.house("""
                class 1 0
                method 1 1 0 1
                INT 1000
                STORE 0
                a: LOAD 0
                OUT
                LOAD 0
                INT 1
                ADD
                STORE 0
                LOAD 0
                INT 1150
                LESS a
                RETURN
                method 2 1 0 0
                INT -5
                OUT
                RETURN
                """);
        Kit.due("without a run", x.output(0), 0);
        x.entry(0);
        x.entry(1);
        Kit.run(x, false, 0, 20000);
        Kit.due("how many", x.result(3), 150);
        for (int i = 0; i < 100; i++) {
            Kit.due("output(" + i + ")", x.output(i), 1000 + i);
        }
        Kit.due("output(100)", x.output(100), 0);
        Kit.due("output(149)", x.output(149), 0);
        Kit.due("output(-1)", x.output(-1), 0);
        Kit.due("output(MAX)", x.output(Integer.MAX_VALUE), 0);
        Kit.run(x, false, 1, 20000);
        Kit.due("output(0)", x.output(0), -5);
        Kit.due("output(1): of the latest run alone", x.output(1), 0);
        Kit.shrink(x, 0);
        Kit.due("output(0) stays", x.output(0), -5);
        x.again();
        Kit.due("no run", x.output(0), 0);
        Kit.finish();
    }
}
