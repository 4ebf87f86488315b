public final class Promise06SizeTest {
    private static final String SOURCE = """
            class 7 0
            field 1 0 1
            field 2 1 0
            method 3 1 0 2
            INT 5
            WRITE 0 0
            CALL 1 0
            RETURN
            TRAP
            class 8 1
            field 2 0 0
            method 4 1 0 0
            RETURN
            method 5 0 1 3 0
            LOAD 1
            RETURN
            """;

    public static void main(String[] args) {
        ShrinkHouse x = new ShrinkHouse();
        Kit.due("another what without a program", x.size(false, 5), Kit.NONE);
        Kit.due("read()", Kit.read(x, SOURCE), 0);
        dueSizes(x, false, 2, 3, 3, 8, Kit.bytes(SOURCE).length);
        dueSizes(x, true, 0, 0, 0, 0, 0);
        x.entry(0);
        dueSizes(x, true, 0, 0, 0, 0, 0);
        Kit.shrink(x, 0);
        // CLASS 1 has a METHOD that is called; CLASS 0 is above it, has the ENTRY and a FIELD
        int bytes = 3 + (3 + 3 + 1) + (6 + 5 + 3 + 3 + 1) + (3 + 1) + (6 + 1);
        dueSizes(x, true, 2, 1, 2, 5, bytes);
        dueSizes(x, false, 2, 3, 3, 8, Kit.bytes(SOURCE).length);
        Kit.shrink(x, 1);
        // the LEAF is put in, so that CLASS 1 goes
        dueSizes(x, true, 1, 1, 1, 3, 3 + (3 + 3 + 1) + (6 + 5 + 3 + 1));
        x.again();
        dueSizes(x, false, 1, 1, 1, 3, 3 + (3 + 3 + 1) + (6 + 5 + 3 + 1));
        dueSizes(x, true, 0, 0, 0, 0, 0);
        Kit.finish();
    }

    private static void dueSizes(ShrinkHouse x, boolean small, int... sizes) {
        for (int what = 0; what < sizes.length; what++) {
            Kit.due("size(" + small + ", " + what + ")", x.size(small, what), sizes[what]);
        }
        Kit.due("size(" + small + ", -1)", x.size(small, -1), Kit.NONE);
        Kit.due("size(" + small + ", 5)", x.size(small, 5), Kit.NONE);
    }
}
