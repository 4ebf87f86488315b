import java.util.ArrayList;
import java.util.List;
import java.util.Random;

/**
 * Random programs (always the same ones): the small program is a container without FAULT, puts out the same and traps
 * alike, its trace told back is the program's, and again() is as read() of its bytes.
 */
public final class AlikeTest {
    private static final String[] RECKON = {"ADD", "SUB", "MUL", "DIV", "REM"};
    private static final int CLASSES = 4;
    /** CLASS 1 and 2 are below 0, 3 is below 2; each has an INT, a REF to CLASS 0 and two STATIC fields. */
    private static final int[] SUPER = {0, 1, 1, 3};

    private final Random random;
    private final StringBuilder text = new StringBuilder();
    private List<String> code;
    /** How many more calls of number() and object() may branch out in this METHOD. */
    private int budget;
    private List<Integer> ints;
    private List<Integer> refs;
    private boolean leaf;

    private AlikeTest(long seed) {
        random = new Random(seed);
    }

    public static void main(String[] args) {
        int alike = 0;
        int traps = 0;
        int read = 0;
        for (long seed = 0; seed < 1000; seed++) {
            int[] bytes = new AlikeTest(seed).program();
            if (bytes.length > 4000) {
                continue;
            }
            ShrinkHouse first = new ShrinkHouse();
            Kit.feed(first, bytes);
            if (first.read() != 0) {
                continue;
            }
            read++;
            int budget = (int) (seed % 13);
            State.Story story = x -> {
                Kit.feed(x, bytes);
                x.read();
                // METHODS 4, 9, 14 and 19 are ENTRIES
                for (int c = 0; c < CLASSES; c++) {
                    x.entry(5 * c + 4);
                }
                Kit.shrink(x, budget);
            };
            for (int round = 0; round < 2; round++) {
                String name = "seed " + seed + " round " + round;
                for (int e = 0; e < CLASSES; e++) {
                    int how = compare(story, e, name + " entry " + e);
                    alike += how >= 0 ? 1 : 0;
                    traps += how == 1 ? 1 : 0;
                }
                checkAgain(story, name, new Random(seed));
                State.Story before = story;
                story = x -> {
                    before.tell(x);
                    x.again();
                    Kit.shrink(x, 12);
                };
            }
        }
        System.out.println("  " + read + " programs, " + alike + " runs alike, " + traps + " of them with a trap");
        Kit.due("enough programs", read > 700, true);
        Kit.due("enough traps", traps > 1000, true);
        Kit.due("enough runs without a trap", alike - traps > 700, true);
        Kit.finish();
    }

    private static ShrinkHouse told(State.Story story) {
        ShrinkHouse x = new ShrinkHouse();
        story.tell(x);
        return x;
    }

    /** How both ended, or NONE where the document does not say that they are alike. */
    private static int compare(State.Story story, int e, String name) {
        ShrinkHouse x = told(story);
        int how = x.run(false, e, 20000);
        int trap = x.result(2);
        String trace = Kit.traces(x);
        Kit.due(name + " back of the program", Kit.backs(x), trace);
        ShrinkHouse y = told(story);
        int small = y.run(true, e, 20000);
        if (how == 2 || small == 2 || trap == 5 || y.result(2) == 5) {
            return Kit.NONE;
        }
        Kit.due(name + " how", small, how);
        Kit.due(name + " trap", y.result(2), trap);
        Kit.due(name + " objects", y.result(5), x.result(5));
        Kit.due(name + " outputs", y.result(3), x.result(3));
        Kit.due(name + " outputs", Kit.outputs(y), Kit.outputs(x));
        Kit.due(name + " trace told back", Kit.backs(y), trace);
        return how;
    }

    /** What again() makes of the small program is what read() makes of its bytes, as far as these fit on the TAPE. */
    private static void checkAgain(State.Story story, String name, Random random) {
        int[] small = State.outs(story);
        ShrinkHouse x = told(story);
        int[] sizes = new int[5];
        for (int what = 0; what < 5; what++) {
            sizes[what] = x.size(true, what);
        }
        Kit.due(name + " bytes", small.length, sizes[4]);
        Kit.due(name + " again", x.again(), true);
        for (int what = 0; what < 5; what++) {
            Kit.due(name + " size", x.size(false, what), sizes[what]);
        }
        if (small.length > 4000) {
            return;
        }
        ShrinkHouse y = new ShrinkHouse();
        Kit.feed(y, small);
        Kit.due(name + " read() of the small one", y.read(), 0);
        for (int n = 0; n < 200; n++) {
            int m = random.nextInt(sizes[2]);
            int i = random.nextInt(random.nextBoolean() ? 8 : 60);
            int what = random.nextInt(4) == 0 ? 0 : random.nextInt(4) == 0 ? 30 + random.nextInt(4) : 10 + random.nextInt(8);
            int type = x.type(m, i, what);
            Kit.due(name + " type", type, y.type(m, i, what));
            Kit.due(name + " all is reached", what != 0 || type != 0, true);
        }
    }

    private int[] program() {
        for (int c = 0; c < CLASSES; c++) {
            text.append("class ").append(c + 1).append(' ').append(SUPER[c]).append('\n');
            text.append("field 1 0 0\nfield 2 1 0\nfield 3 0 1\nfield 4 1 1\n");
            method("20 0 1", 2, true, 0);
            method("21 0 2", 1, false);
            method(30 + c + " 1 1", 2, true, 0, 1);
            method(40 + c + " 1 0", 1, random.nextBoolean(), 0);
            method(50 + c + " 1 0", 3, false);
        }
        return Kit.bytes(text.toString());
    }

    /** The last LOCALS are an INT and a REF to CLASS 0, and set at first. */
    private void method(String face, int more, boolean straight, int... params) {
        code = new ArrayList<>();
        String[] words = face.split(" ");
        int first = params.length + (words[1].equals("0") ? 1 : 0);
        ints = new ArrayList<>();
        refs = new ArrayList<>();
        for (int k = 0; k < params.length; k++) {
            (params[k] == 0 ? ints : refs).add(first - params.length + k);
        }
        text.append("method ").append(face.replaceFirst(" (\\d+)$", " $1 ")).append(first + 2);
        for (int param : params) {
            text.append(' ').append(param);
        }
        text.append('\n');
        budget = 40;
        boolean plain = straight && words[1].equals("1");
        if (!plain) {
            code.add("INT " + constant());
            code.add("STORE " + first);
            code.add(random.nextInt(3) == 0 ? "NULL" : "NEW " + random.nextInt(CLASSES));
            code.add("STORE " + (first + 1));
            ints.add(first);
            refs.add(first + 1);
        }
        leaf = plain;
        int count = plain ? random.nextInt(2) : 1 + random.nextInt(more * 3);
        for (int n = 0; n < count; n++) {
            code.add("L" + n + ":");
            statement(count);
        }
        code.add("L" + count + ":");
        if (words[2].equals("1")) {
            number(0);
        } else if (words[2].equals("2")) {
            object(0);
        }
        code.add("RETURN");
        for (String line : code) {
            text.append(line).append('\n');
        }
    }

    private int constant() {
        int[] some = {0, 0, 1, 1, 2, -1, 7, Integer.MAX_VALUE, Integer.MIN_VALUE, random.nextInt()};
        return some[random.nextInt(some.length)];
    }

    private int local(List<Integer> from) {
        return from.get(random.nextInt(from.size()));
    }

    private void statement(int labels) {
        int which = random.nextInt(leaf ? 5 : 12);
        if (which == 0 || which == 5) {
            number(0);
            code.add("OUT");
        } else if (which == 1 && !ints.isEmpty()) {
            number(0);
            code.add("STORE " + local(ints));
        } else if (which == 2 && !refs.isEmpty()) {
            object(0);
            code.add("STORE " + local(refs));
        } else if (which == 3) {
            object(1);
            number(1);
            code.add("PUT 0 0");
        } else if (which == 4) {
            number(1);
            code.add("WRITE " + random.nextInt(CLASSES) + " 2");
        } else if (which == 6) {
            object(1);
            code.add("POP");
        } else if (which == 7) {
            number(1);
            code.add("ZERO L" + random.nextInt(labels + 1));
        } else if (which == 8) {
            number(1);
            number(1);
            code.add("LESS L" + random.nextInt(labels + 1));
        } else if (which == 9) {
            object(1);
            code.add("NONE L" + random.nextInt(labels + 1));
        } else if (which == 10) {
            number(1);
            code.add("CALL " + random.nextInt(CLASSES) + " 3");
        } else if (which == 11) {
            code.add("JUMP L" + random.nextInt(labels + 1));
        }
    }

    private void number(int depth) {
        int which = depth > 2 || budget-- < 0 ? random.nextInt(2) : random.nextInt(leaf ? 6 : 9);
        if (which <= 1) {
            code.add(which == 1 && !ints.isEmpty() ? "LOAD " + local(ints) : "INT " + constant());
        } else if (which == 2 || which == 3) {
            number(depth + 1);
            number(depth + 1);
            code.add(RECKON[random.nextInt(RECKON.length)]);
        } else if (which == 4) {
            object(depth + 1);
            code.add(random.nextBoolean() ? "IS " + random.nextInt(CLASSES) : "GET 0 0");
        } else if (which == 5) {
            code.add("READ " + random.nextInt(CLASSES) + " 2");
        } else if (which == 6) {
            object(depth + 1);
            int c = random.nextInt(3) == 0 ? random.nextInt(CLASSES) : 0;
            if (c != 0) {
                code.add("CAST " + c);
            }
            number(depth + 1);
            code.add((random.nextInt(5) == 0 ? "CALL " : "SEND ") + c + " 0");
        } else {
            number(depth + 1);
            object(depth + 1);
            code.add("CALL " + random.nextInt(CLASSES) + " 2");
        }
    }

    private void object(int depth) {
        int which = depth > 2 || budget-- < 0 ? random.nextInt(4) : random.nextInt(leaf ? 7 : 8);
        if (which <= 1 && !refs.isEmpty()) {
            code.add("LOAD " + local(refs));
        } else if (which <= 2) {
            code.add("NEW " + random.nextInt(CLASSES));
        } else if (which == 3) {
            code.add(random.nextInt(3) == 0 ? "NULL" : "NEW " + random.nextInt(2));
        } else if (which == 4) {
            code.add("READ " + random.nextInt(CLASSES) + " 3");
        } else if (which == 5) {
            object(depth + 1);
            code.add("CAST " + random.nextInt(CLASSES));
        } else if (which == 6) {
            object(depth + 1);
            code.add("GET 0 1");
        } else {
            object(depth + 1);
            code.add("SEND 0 1");
        }
    }
}
