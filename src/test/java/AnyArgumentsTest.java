import java.util.Random;

/** Calls with any numbers, in any order, on any bytes: only what the document names is thrown, and each call ends. */
public final class AnyArgumentsTest {
    private static final int[] HARD = {0, 1, -1, 2, 3, 9, 10, 11, 19, 20, 30, 39, 40, 100, 119, 120, 4000, 20000, 20001,
        Integer.MAX_VALUE, Integer.MIN_VALUE};
    private static final String[] SOURCES = {
        "class 1 0; field 1 1 1; method 1 1 0 2; NEW 0; STORE 0; LOAD 0; SEND 0 1; RETURN; method 2 0 0 1; TRAP",
        "class 1 0; field 1 0 1; method 1 1 0 0; a: READ 0 0; INT 1; ADD; DUP; WRITE 0 0; OUT; JUMP a;"
                + "method 2 1 1 0; INT 3; RETURN",
        "class 1 0; method 1 1 0 0; CALL 0 0; RETURN; class 2 1"};

    private final Random random;
    private final ShrinkHouse x = new ShrinkHouse();
    private int calls = 0;

    private AnyArgumentsTest(long seed) {
        random = new Random(seed);
    }

    public static void main(String[] args) {
        for (long seed = 0; seed < 2000; seed++) {
            AnyArgumentsTest test = new AnyArgumentsTest(seed);
            while (test.calls < 500) {
                test.call(seed);
            }
        }
        Kit.finish();
    }

    private int any() {
        return random.nextInt(3) == 0 ? HARD[random.nextInt(HARD.length)] : random.nextInt(5);
    }

    private void call(long seed) {
        int which = random.nextInt(22);
        // feedSome() makes some ten calls
        calls += which == 0 ? 10 : 1;
        try {
            switch (which) {
                case 0:
                    feedSome();
                    break;
                case 1:
                    x.end(any());
                    break;
                case 2:
                    x.read();
                    break;
                case 3:
                    x.shrink(any());
                    break;
                case 4:
                    x.run(random.nextBoolean(), any(), any());
                    break;
                case 5:
                    x.again();
                    break;
                case 6:
                    x.entry(any());
                    break;
                default:
                    ask(which);
                    break;
            }
        } catch (IllegalArgumentException | IllegalStateException e) {
            Kit.due("seed " + seed + ": who throws", which == 3 || which == 4, true);
        }
    }

    /** A program, the same with bytes changed, or any bytes at all. */
    private void feedSome() {
        x.end(0);
        int[] bytes = Kit.bytes(SOURCES[random.nextInt(SOURCES.length)]);
        for (int n = random.nextInt(3); n > 0; n--) {
            bytes[random.nextInt(bytes.length)] = random.nextInt(random.nextBoolean() ? 27 : 256);
        }
        if (random.nextInt(10) == 0) {
            x.feed(random.nextInt(), any(), any(), random.nextInt(), any());
        } else {
            Kit.feed(x, bytes);
            x.read();
        }
    }

    private void ask(int which) {
        boolean small = random.nextBoolean();
        switch (which) {
            case 7:
                x.fault(any());
                break;
            case 8:
                x.size(small, any());
                break;
            case 9:
            case 10:
                x.method(small, any(), any(), any());
                break;
            case 11:
            case 12:
                x.type(any(), any(), any());
                break;
            case 13:
                x.out(any());
                break;
            case 14:
                x.kept(any(), any(), any());
                break;
            case 15:
                x.made(any());
                break;
            case 16:
            case 17:
                x.origin(any(), any(), any());
                break;
            case 18:
                x.result(any());
                break;
            case 19:
                x.output(any());
                break;
            case 20:
                x.trace(any());
                break;
            default:
                x.back(any());
                break;
        }
    }
}
