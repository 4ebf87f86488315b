public final class Promise03EndTest {
    public static void main(String[] args) {
        ShrinkHouse x = new ShrinkHouse();
        x.feed(0x53480101, 0x00000101, 0x01000000, 0x01160000, 0);
        Kit.due("end(-1)", x.end(-1), false);
        Kit.due("end(MIN)", x.end(Integer.MIN_VALUE), false);
        Kit.due("end(21)", x.end(21), false);
        Kit.due("end(MAX)", x.end(Integer.MAX_VALUE), false);
        Kit.due("end(20) after the false ones", x.end(20), true);
        Kit.due("end(14)", x.end(14), true);
        Kit.due("end(15): it has no more than 14", x.end(15), false);
        Kit.due("read(): the first 14 are there", x.read(), 0);
        Kit.due("end(1) of an empty tape", x.end(1), false);
        x.feed(0x53480000, 0, 0, 0, 0);
        Kit.due("end(0)", x.end(0), true);
        Kit.due("read()", x.read(), 1);
        Kit.due("fault(1)", x.fault(1), 0);
        // what comes after end() stands right behind what is left
        x.feed(0x53480101, 0x00000101, 0x01000000, 0x01FFFFFF, -1);
        Kit.due("end(13)", x.end(13), true);
        x.feed(0x16000000, 0, 0, 0, 0);
        Kit.due("end(14)", x.end(14), true);
        Kit.due("read()", x.read(), 0);
        Kit.finish();
    }
}
