public final class Promise02FeedTest {
    public static void main(String[] args) {
        theHighestByteComesFirst();
        negativeNumbersAreBytesToo();
        atMost4000Bytes();
        Kit.finish();
    }

    private static void theHighestByteComesFirst() {
        ShrinkHouse x = new ShrinkHouse();
        // 83 72 1, class 1 0 0, 1 method: 1 1 0 0 0 1, RETURN: fourteen bytes, six more behind them
        Kit.due("feed", x.feed(0x53480101, 0x00000101, 0x01000000, 0x01160000, 0), true);
        Kit.due("end(20)", x.end(20), true);
        Kit.due("end(14)", x.end(14), true);
        Kit.due("read()", x.read(), 0);
        Kit.due("size(false, 4)", x.size(false, 4), 14);
    }

    private static void negativeNumbersAreBytesToo() {
        ShrinkHouse x = new ShrinkHouse();
        // class 255; its method puts out 0xFFFFFFFE
        Kit.due("feed", x.feed(0x534801FF, 0x00000101, 0x01000000, 0x0300FFFF, 0xFFFE1716), true);
        Kit.due("read()", x.read(), 0);
        Kit.due("entry(0)", x.entry(0), 0);
        Kit.due("run", Kit.run(x, false, 0, 10), "0");
        Kit.due("output(0)", x.output(0), -2);
    }

    private static void atMost4000Bytes() {
        ShrinkHouse x = new ShrinkHouse();
        for (int n = 0; n < 200; n++) {
            Kit.due("feed " + n, x.feed(n, n, n, n, n), true);
        }
        Kit.due("feed at 4000", x.feed(1, 2, 3, 4, 5), false);
        Kit.due("end(4001)", x.end(4001), false);
        Kit.due("end(4000)", x.end(4000), true);
        Kit.due("end(3981)", x.end(3981), true);
        Kit.due("feed at 3981", x.feed(1, 2, 3, 4, 5), false);
        Kit.due("end(3982)", x.end(3982), false);
        Kit.due("end(3980)", x.end(3980), true);
        Kit.due("feed at 3980", x.feed(1, 2, 3, 4, 5), true);
        Kit.due("end(4000)", x.end(4000), true);
    }
}
