import java.util.Map;

/** Promises 1 to 20: of each argument the last that is still taken and the first that is not, at nothing and at all. */
public final class EdgeCallsTest {
    private static final int MIN = Integer.MIN_VALUE;
    private static final int MAX = Integer.MAX_VALUE;
    private static final int[] BEYOND = {MIN, MIN + 1, -1000, -2, -1, 1000, 100000, MAX - 1, MAX};

    public static void main(String[] args) {
        aNewObject();
        feedsOfEachByte();
        endsOfATape();
        aProgramBeginsAnew();
        faultsOfTheLatestRead();
        sizes();
        methods();
        typesOfAnEmptyState();
        typesOfAFullState();
        typesOfWhatIsNotReached();
        anEntryComes();
        shrinkMakesItAnew();
        outs();
        kept();
        made();
        origins();
        theGreatestPlace();
        results();
        traces();
        backsOfFortyOnePlaces();
        againIsAsRead();
        againAndAgain();
        theLastCall();
        Kit.finish();
    }

    /** Promise 1: "An empty TAPE, no program." */
    private static void aNewObject() {
        Map<String, String> fresh = State.of(x -> {
        });
        Kit.due("TAPE", fresh.get("tape bytes"), "0");
        Kit.due("read() of it", fresh.get("tape read"), "1 0 -1 -1 [0, 0, 0, 0, 0]");
        Kit.due("fault(0)", fresh.get("fault 0"), "0");
        for (int what = 1; what < 4; what++) {
            Kit.due("fault", fresh.get("fault " + what), "-1");
        }
        for (String small : new String[] {"false", "true"}) {
            for (int what = 0; what < 5; what++) {
                Kit.due("size", fresh.get("size " + small + " " + what), "0");
            }
            for (int e = 0; e < 7; e++) {
                Kit.due("run", fresh.get("run " + small + " " + e).startsWith("throws.IllegalStateException -1 -1 -1"), true);
            }
        }
        for (int what = 0; what < 8; what++) {
            Kit.due("result", fresh.get("result " + what), "-1");
        }
        Kit.due("entry", fresh.get("entry 0"), "-1");
        Kit.due("shrink", fresh.get("shrink 0"), "throws.IllegalStateException []");
        Kit.due("again", fresh.get("again").startsWith("false"), true);
    }

    /** Promise 2: "Twenty bytes come to the TAPE, the highest byte of each number first": each bit of each byte. */
    private static void feedsOfEachByte() {
        for (int value : new int[] {0, 1, 127, 128, 254, 255}) {
            // FIELD's NAME and the INT's four bytes take it, wherever they come to stand
            for (int ahead = 0; ahead < 5; ahead++) {
                int[] fields = Kit.repeated(ahead, 9, 0, 1);
                for (int k = 0; k < ahead; k++) {
                    fields[3 * k] = 10 + k;
                }
                int[] code = {1, 1, 1, 0, 0, 0, 3, 0, value, 255 - value, value, 255 - value, 23, 22};
                ShrinkHouse x = new ShrinkHouse();
                Kit.feed(x, Kit.joined(new int[] {83, 72, 1, 1, 0, ahead}, fields, code));
                Kit.due("read()", x.read(), 0);
                Kit.due("entry(0)", x.entry(0), 0);
                Kit.due("run", Kit.run(x, false, 0, 10), "0");
                Kit.due("the INT", x.output(0), value << 24 | 255 - value << 16 | value << 8 | 255 - value);
            }
        }
    }

    /** Promise 3: "The TAPE has only its first n bytes": none of them, all of them, all but one. */
    private static void endsOfATape() {
        int[] bytes = Kit.bytes("class 1 0; method 1 1 0 0; INT 7; OUT; RETURN");
        ShrinkHouse x = new ShrinkHouse();
        Kit.feed(x, bytes);
        Kit.due("all", x.end(bytes.length), true);
        Kit.due("all are there", x.read(), 0);
        Kit.feed(x, bytes);
        Kit.due("all but one", x.end(bytes.length - 1), true);
        Kit.due("what went does not come back", x.end(bytes.length), false);
        Kit.due("the end", x.read(), 1);
        Kit.due("where", x.fault(1), bytes.length - 1);
        Kit.feed(x, bytes);
        Kit.due("none", x.end(0), true);
        Kit.due("none", x.end(0), true);
        Kit.due("one", x.end(1), false);
        Kit.due("nothing", x.read(), 1);
        Kit.due("where", x.fault(1), 0);
    }

    /** Promise 4: "and that is the program: without ENTRIES, a small one, a run": at each time as of a new object. */
    private static void aProgramBeginsAnew() {
        State.Story other = x -> Kit.read(x, "class 9 0; field 8 1 1; method 7 1 0 2; INT 9; OUT; TRAP; method 6 1 1 0; INT 1;"
                + "RETURN; class 8 1");
        for (State.Story later : new State.Story[] {other, Stages::program, Stages::ran, Stages::ranSmall, Stages::again}) {
            Map<String, String> due = State.of(later);
            Map<String, State.Story> stages = Stages.all();
            stages.put("all there is room for", Stages::full);
            for (Map.Entry<String, State.Story> stage : stages.entrySet()) {
                State.Story both = x -> {
                    stage.getValue().tell(x);
                    x.end(0);
                    later.tell(x);
                };
                State.dueSame("another program after " + stage.getKey(), due, State.of(both), "fault", "tape");
            }
        }
        nothingOfAGreaterOne();
    }

    /** What a program has not is not there, though the one before it had it. */
    private static void nothingOfAGreaterOne() {
        ShrinkHouse x = new ShrinkHouse();
        Stages.full(x);
        Kit.due("read()", Kit.read(x, "class 1 0; method 1 1 0 0; CALL 0 1; RETURN; method 2 1 0 0; NEW 0; POP; RETURN"), 0);
        for (int m : new int[] {2, 3, 7, 8, 15, 79}) {
            Kit.due("no METHOD " + m, x.entry(m), Kit.NONE);
            Kit.due("no METHOD " + m, x.type(m, 0, 0), Kit.NONE);
            Kit.due("no METHOD " + m, x.method(false, 0, m, 0), Kit.NONE);
        }
        Kit.due("no CLASS 1", x.method(false, 1, 0, 0), Kit.NONE);
        Kit.due("no instruction 2", x.type(0, 2, 0), Kit.NONE);
        Kit.due("entry(0)", x.entry(0), 0);
        Kit.shrink(x, 12);
        Kit.due("no CLASS 1", x.kept(0, 1, 0), Kit.NONE);
        Kit.due("no FIELD", x.kept(1, 0, 0), Kit.NONE);
        Kit.due("no METHOD 2", x.kept(2, 0, 2), Kit.NONE);
        Kit.due("no METHOD 1", x.origin(1, 0, 0), Kit.NONE);
        Kit.due("no instruction 3", x.origin(0, 3, 0), Kit.NONE);
        // the stack that was ten high behind where the LEAF ends now does not count
        x = new ShrinkHouse();
        Stages.full(x);
        Kit.due("read()", Kit.read(x, "class 1 0; method 1 1 0 0; NULL; CALL 0 1; RETURN; method 2 1 0 0;"
                + "NEW 0; POP;".repeat(3) + "NEW 0; IS 0; POP; RETURN"), 0);
        Kit.due("entry(0)", x.entry(0), 0);
        Kit.shrink(x, 12);
        Kit.due("put in", x.made(1), 1);
    }

    /** Promise 5: "(0 without, or ahead of any)", "NONE without (2, 3 also of FAULT 1), or for another what" */
    private static void faultsOfTheLatestRead() {
        ShrinkHouse x = new ShrinkHouse();
        dueFault(x, 0, -1, -1, -1);
        x.read();
        dueFault(x, 1, 0, -1, -1);
        Kit.read(x, "class 1 0; class 1 0; field 1 0 0; field 2 0 0; field 2 0 0");
        dueFault(x, 2, 1, 2, 0);
        Kit.read(x, "class 1 0; class 1 0; method 1 1 0 0; TRAP; method 1 1 0 0; TRAP");
        dueFault(x, 2, 1, 1, 1);
        Kit.read(x, "class 1 0; method 1 1 0 0; TRAP; class 1 0; method 1 1 0 0; TRAP; method 2 1 0 0; NULL; NULL; OUT; TRAP");
        dueFault(x, 4, 1, 1, 2);
        Kit.read(x, "class 1 0");
        dueFault(x, 0, -1, -1, -1);
    }

    private static void dueFault(ShrinkHouse x, int... due) {
        for (int what = 0; what < 4; what++) {
            Kit.due("fault(" + what + ")", x.fault(what), due[what]);
        }
        Kit.due("fault(4)", x.fault(4), Kit.NONE);
        for (int what : BEYOND) {
            Kit.due("fault(" + what + ")", x.fault(what), Kit.NONE);
        }
    }

    /** Promise 6: "0 without it; NONE for another what." The smallest program has neither FIELDS nor METHODS. */
    private static void sizes() {
        ShrinkHouse x = Kit.house("class 1 0");
        int[] due = {1, 0, 0, 0, 7};
        for (int what = 0; what < 5; what++) {
            Kit.due("size(false, " + what + ")", x.size(false, what), due[what]);
            Kit.due("size(true, " + what + ")", x.size(true, what), 0);
        }
        for (boolean small : new boolean[] {false, true}) {
            Kit.due("size(" + small + ", 5)", x.size(small, 5), Kit.NONE);
            for (int what : BEYOND) {
                Kit.due("size(" + small + ", " + what + ")", x.size(small, what), Kit.NONE);
            }
        }
    }

    /** Promise 7: "NONE without it, or for another what." */
    private static void methods() {
        StringBuilder text = new StringBuilder();
        for (int c = 0; c < 10; c++) {
            text.append("class 1 0;");
            for (int k = 0; k < 8; k++) {
                text.append("method ").append(255 - k).append(" 0 11 20 0 0 0; TRAP;");
            }
        }
        ShrinkHouse x = Kit.house(text.toString());
        int[] due = {248, 0, 11, 3, 20, 1, 79};
        for (int what = 0; what < 7; what++) {
            Kit.due("the last METHOD", x.method(false, 9, 7, what), due[what]);
            Kit.due("no small one", x.method(true, 9, 7, what), Kit.NONE);
            Kit.due("METHOD 8", x.method(false, 9, 8, what), Kit.NONE);
            Kit.due("METHOD -1", x.method(false, 9, -1, what), Kit.NONE);
            Kit.due("CLASS 10", x.method(false, 10, 0, what), Kit.NONE);
            Kit.due("CLASS -1", x.method(false, -1, 7, what), Kit.NONE);
        }
        Kit.due("the first METHOD", x.method(false, 0, 0, 6), 0);
        Kit.due("the first of the second CLASS", x.method(false, 1, 0, 6), 8);
        Kit.due("what 7", x.method(false, 0, 0, 7), Kit.NONE);
        for (int beyond : BEYOND) {
            Kit.due("what " + beyond, x.method(false, 0, 0, beyond), Kit.NONE);
            Kit.due("METHOD " + beyond, x.method(false, 0, beyond, 0), Kit.NONE);
            Kit.due("CLASS " + beyond, x.method(false, beyond, 0, 0), Kit.NONE);
        }
        // a CLASS without METHODS, between two that have one
        x = Kit.house("class 1 0; method 1 1 0 0; TRAP; class 2 0; class 3 0; method 2 1 0 0; TRAP");
        Kit.due("of CLASS 1", x.method(false, 1, 0, 6), Kit.NONE);
        Kit.due("of CLASS 2", x.method(false, 2, 0, 6), 1);
        Kit.due("no METHOD 1 of CLASS 0", x.method(false, 0, 1, 6), Kit.NONE);
    }

    /** Promise 8, of nothing at all: no LOCALS, an empty stack. */
    private static void typesOfAnEmptyState() {
        ShrinkHouse x = Kit.house("class 1 0; method 1 1 0 0; TRAP");
        Kit.due("reached", x.type(0, 0, 0), 1);
        Kit.due("how many on the stack", x.type(0, 0, 1), 0);
        for (int what = 2; what < 60; what++) {
            Kit.due("what " + what, x.type(0, 0, what), Kit.NONE);
        }
        for (int beyond : BEYOND) {
            Kit.due("what " + beyond, x.type(0, 0, beyond), Kit.NONE);
            Kit.due("instruction " + beyond, x.type(0, beyond, 0), Kit.NONE);
            Kit.due("METHOD " + beyond, x.type(beyond, 0, 0), Kit.NONE);
        }
        Kit.due("instruction 1", x.type(0, 1, 0), Kit.NONE);
        Kit.due("METHOD 1", x.type(1, 0, 0), Kit.NONE);
    }

    /** Promise 8, of all that there is room for: 20 LOCALS, 10 on the stack, of the tenth CLASS. */
    private static void typesOfAFullState() {
        StringBuilder text = new StringBuilder();
        for (int c = 0; c < 10; c++) {
            text.append("class 1 0;");
        }
        text.append("method 1 0 0 20 10 0 1;");
        for (int l = 4; l < 20; l++) {
            text.append(l % 2 == 0 ? "NEW 9;" : "INT 1;").append("STORE ").append(l).append(';');
        }
        text.append("NULL; NEW 9; INT 1; NULL; NEW 8; INT 2; NULL; NEW 0; INT 3; NEW 9; TRAP");
        ShrinkHouse x = Kit.house(text.toString());
        int last = 16 * 2 + 10;
        int[] locals = {13, 13, 1, 4};
        int[] stack = {2, 13, 1, 2, 12, 1, 2, 4, 1, 13};
        Kit.due("how many on the stack", x.type(0, last, 1), 10);
        for (int l = 0; l < 20; l++) {
            Kit.due("local " + l, x.type(0, last, 10 + l), l < 4 ? locals[l] : l % 2 == 0 ? 13 : 1);
        }
        for (int k = 0; k < 10; k++) {
            Kit.due("on the stack " + k, x.type(0, last, 30 + k), stack[k]);
        }
        Kit.due("what 40", x.type(0, last, 40), Kit.NONE);
        for (int what = 2; what < 10; what++) {
            Kit.due("what " + what, x.type(0, last, what), Kit.NONE);
        }
        // ahead of the last one nine are there
        Kit.due("what 39", x.type(0, last - 1, 39), Kit.NONE);
        Kit.due("what 38", x.type(0, last - 1, 38), 1);
        Kit.due("the first one", x.type(0, 0, 1), 0);
        Kit.due("UNSET there", x.type(0, 0, 29), 0);
    }

    /** Promise 8: "NONE .. but for 0, if it is not reached" */
    private static void typesOfWhatIsNotReached() {
        ShrinkHouse x = Kit.house("class 1 0; method 1 1 0 20; INT 1; TRAP; INT 2; TRAP; method 2 1 0 20; JUMP 2; NULL; TRAP");
        int[][] places = {{0, 2}, {0, 3}, {1, 1}};
        for (int[] place : places) {
            Kit.due("not reached", x.type(place[0], place[1], 0), 0);
            for (int what = 1; what < 41; what++) {
                Kit.due("what " + what, x.type(place[0], place[1], what), Kit.NONE);
            }
        }
        Kit.due("reached", x.type(1, 2, 0), 1);
        Kit.due("by no more than a JUMP", x.type(1, 2, 1), 0);
    }

    /** Promise 9: "(A small program goes then, if an ENTRY came.)": all else stays. */
    private static void anEntryComes() {
        // "output", which is the run's, does not begin with "out " and stays
        String[] but = {"size true", "method true", "out ", "made", "kept", "origin", "run true", "again", "shrink", "entry",
            "run false 2"};
        int came = 0;
        for (Map.Entry<String, State.Story> stage : Stages.all().entrySet()) {
            Map<String, String> before = State.of(stage.getValue());
            if (stage.getKey().contains("six") || !"2".equals(before.get("entry 5"))) {
                continue;
            }
            came++;
            State.Story more = State.then(stage.getValue(), x -> Kit.due("entry(5)", x.entry(5), 2));
            Map<String, String> after = State.of(more);
            State.dueSame("an ENTRY after " + stage.getKey(), before, after, but);
            Kit.due("no small program", after.get("size true 0"), "0");
            Kit.due("nor its bytes", after.get("out 0"), "-1");
            Kit.due("nor a run of it", after.get("run true 0").startsWith("throws.IllegalStateException"), true);
            Kit.due("it runs", after.get("run false 2").startsWith("0 0 5 0 1 0 0 1 0 | 7"), true);
            Kit.due("again()", after.get("again").startsWith("false"), true);
        }
        Kit.due("how often an ENTRY came", came, 5);
    }

    /** Promise 10: "The small program is made": by this BUDGET alone, whatever was made before. */
    private static void shrinkMakesItAnew() {
        for (int budget : new int[] {0, 1, 3, 4, 12}) {
            Map<String, String> due = State.of(State.then(Stages::entries, x -> Kit.shrink(x, budget)));
            Kit.due("answer", due.get("size true 4"), Kit.shrink(entered(), budget));
            for (int other : new int[] {0, 4, 12}) {
                State.Story twice = State.then(Stages::entries, x -> {
                    Kit.shrink(x, other);
                    Kit.shrink(x, budget);
                });
                State.dueSame("BUDGET " + budget + " after " + other, due, State.of(twice));
            }
        }
    }

    private static ShrinkHouse entered() {
        ShrinkHouse x = new ShrinkHouse();
        Stages.entries(x);
        return x;
    }

    private static ShrinkHouse shrunk() {
        ShrinkHouse x = new ShrinkHouse();
        Stages.shrunk(x);
        return x;
    }

    /** Promise 11: "NONE if there is none" */
    private static void outs() {
        ShrinkHouse x = shrunk();
        int bytes = x.size(true, 4);
        Kit.due("the first", x.out(0), 83);
        Kit.due("the last", x.out(bytes - 1) >= 0, true);
        Kit.due("behind it", x.out(bytes), Kit.NONE);
        Kit.due("far behind it", x.out(3999), Kit.NONE);
        for (int beyond : BEYOND) {
            Kit.due("out(" + beyond + ")", x.out(beyond), Kit.NONE);
        }
        // the smallest one, and one that was made shorter than the one before it
        x = Kit.house("class 1 0; method 1 1 0 0; CALL 0 1; RETURN; method 2 1 0 0; RETURN");
        x.entry(0);
        Kit.due("with the METHOD", Kit.shrink(x, 0), "24");
        Kit.due("its last byte", x.out(23), 22);
        Kit.due("without it", Kit.shrink(x, 1), "14");
        Kit.due("its last byte", x.out(13), 22);
        Kit.due("behind it", x.out(14), Kit.NONE);
        // each of 256 bytes
        x = Kit.shrunk("class 1 0; method 1 1 0 0; INT -128; OUT; INT 8388607; OUT; RETURN", 0, 0);
        int[] due = {0, 255, 255, 255, 128, 23, 0, 0, 127, 255, 255, 23, 22};
        for (int i = 0; i < due.length; i++) {
            Kit.due("out(" + (13 + i) + ")", x.out(13 + i), due[i]);
        }
    }

    /** Promise 12: "NONE if it is not KEPT, without it, a small program, or for another sort." */
    private static void kept() {
        ShrinkHouse x = entered();
        for (int sort = 0; sort < 3; sort++) {
            Kit.due("without a small program", x.kept(sort, 0, 0), Kit.NONE);
        }
        x = shrunk();
        for (int beyond : BEYOND) {
            Kit.due("sort " + beyond, x.kept(beyond, 0, 0), Kit.NONE);
            for (int sort = 0; sort < 3; sort++) {
                Kit.due("CLASS " + beyond, x.kept(sort, beyond, 0), Kit.NONE);
            }
            Kit.due("FIELD " + beyond, x.kept(1, 0, beyond), Kit.NONE);
            Kit.due("METHOD " + beyond, x.kept(2, 0, beyond), Kit.NONE);
        }
        Kit.due("sort 3", x.kept(3, 0, 0), Kit.NONE);
        Kit.due("CLASS 1", x.kept(0, 1, 0), 1);
        Kit.due("CLASS 2", x.kept(0, 2, 0), Kit.NONE);
        Kit.due("FIELD 0", x.kept(1, 0, 0), 0);
        Kit.due("FIELD 1", x.kept(1, 0, 1), Kit.NONE);
        Kit.due("METHOD 0", x.kept(2, 0, 0), 0);
        Kit.due("METHOD 1, put in", x.kept(2, 0, 1), Kit.NONE);
        Kit.due("METHOD 4", x.kept(2, 0, 4), 2);
        Kit.due("METHOD 5", x.kept(2, 0, 5), Kit.NONE);
        Kit.due("METHOD 0 of CLASS 1", x.kept(2, 1, 0), Kit.NONE);
    }

    /** Promise 13: "0 without a small program; NONE for another what." */
    private static void made() {
        for (ShrinkHouse x : new ShrinkHouse[] {new ShrinkHouse(), entered(), shrunk()}) {
            boolean small = x.size(true, 0) > 0;
            for (int what = 0; what <= 24; what++) {
                boolean known = what <= 3 || what >= 11 && what <= 22;
                if (!known) {
                    Kit.due("made(" + what + ")", x.made(what), Kit.NONE);
                } else if (!small) {
                    Kit.due("made(" + what + ")", x.made(what), 0);
                }
            }
            for (int beyond : BEYOND) {
                Kit.due("made(" + beyond + ")", x.made(beyond), Kit.NONE);
            }
        }
        ShrinkHouse x = shrunk();
        Kit.due("BOUND", x.made(0), 1);
        Kit.due("put in", x.made(1), 1);
        Kit.due("RULES", x.made(2), 1);
        Kit.due("SHELLS", x.made(3), 0);
        Kit.due("RULE 1", x.made(11), 1);
        Kit.due("RULE 12", x.made(22), 0);
    }

    /** Promise 14: "NONE if there is none such." */
    private static void origins() {
        ShrinkHouse x = shrunk();
        // METHOD 0: INT, OUT, INT, READ, STORE, STORE, LOAD, LOAD, DIV, OUT, RETURN
        String[] due = {"0", "1", "2", "3", "4", "4", "1000 4", "1001 4", "1002 4", "5", "6"};
        for (int i = 0; i < due.length; i++) {
            Kit.due("origin of " + i, Kit.origins(x, 0, i), due[i]);
            Kit.due("place -1", x.origin(0, i, -1), Kit.NONE);
            Kit.due("place 2", x.origin(0, i, 2), Kit.NONE);
        }
        Kit.due("instruction 11", x.origin(0, 11, 0), Kit.NONE);
        Kit.due("METHOD 3", x.origin(3, 0, 0), Kit.NONE);
        Kit.due("METHOD 2", x.origin(2, 0, 0), 4000);
        for (int beyond : BEYOND) {
            Kit.due("METHOD " + beyond, x.origin(beyond, 0, 0), Kit.NONE);
            Kit.due("instruction " + beyond, x.origin(0, beyond, 0), Kit.NONE);
            Kit.due("place " + beyond, x.origin(0, 6, beyond), Kit.NONE);
        }
    }

    /** Promises 14, 18, 19: instruction 119 of METHOD 79 is place 79119. */
    private static void theGreatestPlace() {
        StringBuilder text = new StringBuilder();
        for (int m = 0; m < 79; m++) {
            text.append(m % 8 == 0 ? "class 1 0;" : "").append("method ").append(m % 8 + 1).append(" 1 0 0; RETURN;");
        }
        text.append("method 8 1 0 0;").append("NEW 0; POP;".repeat(59)).append("NEW 0; TRAP");
        ShrinkHouse x = Kit.shrunk(text.toString(), 79, 0);
        Kit.due("origin", x.origin(0, 119, 0), 79119);
        Kit.due("run", Kit.run(x, false, 0, 1000), "1");
        Kit.due("trace(0)", x.trace(0), 79119);
        Kit.due("back(0)", x.back(0), 79119);
        Kit.due("run of the small one", Kit.run(x, true, 0, 1000), "1");
        Kit.due("trace(0)", x.trace(0), 119);
        Kit.due("back(0)", x.back(0), 79119);
    }

    /** Promise 16: "NONE without a run, or for another what." */
    private static void results() {
        ShrinkHouse x = shrunk();
        for (int what = 0; what < 9; what++) {
            Kit.due("without a run", x.result(what), Kit.NONE);
        }
        Kit.due("run", Kit.run(x, false, 1, 100), "1");
        int[] due = {1, 8, 2, 1, 2, 0, 2, 2};
        for (int what = 0; what < 8; what++) {
            Kit.due("result(" + what + ")", x.result(what), due[what]);
        }
        Kit.due("run of the small one", Kit.run(x, true, 1, 100), "1");
        int[] small = {1, 9, 2, 1, 1, 0, 1, 2};
        for (int what = 0; what < 8; what++) {
            Kit.due("result(" + what + ")", x.result(what), small[what]);
        }
        Kit.due("result(8)", x.result(8), Kit.NONE);
        for (int beyond : BEYOND) {
            Kit.due("result(" + beyond + ")", x.result(beyond), Kit.NONE);
            Kit.due("output(" + beyond + ")", x.output(beyond), 0);
        }
        Kit.due("output(1)", x.output(1), 0);
        Kit.due("output(0)", x.output(0), 5);
    }

    /** Promises 18 and 19: "NONE if there is none." */
    private static void traces() {
        ShrinkHouse x = shrunk();
        Kit.due("without a run", x.trace(0), Kit.NONE);
        Kit.due("without a run", x.back(0), Kit.NONE);
        Kit.run(x, true, 1, 100);
        Kit.due("trace(0)", x.trace(0), 8);
        Kit.due("trace(1)", x.trace(1), Kit.NONE);
        Kit.due("back(0)", x.back(0), 1002);
        Kit.due("back(1)", x.back(1), 4);
        Kit.due("back(2)", x.back(2), Kit.NONE);
        for (int beyond : BEYOND) {
            Kit.due("trace(" + beyond + ")", x.trace(beyond), Kit.NONE);
            Kit.due("back(" + beyond + ")", x.back(beyond), Kit.NONE);
        }
        // without a TRAP there is none: CUT, and ENDED
        Kit.run(x, true, 1, 3);
        Kit.due("CUT", x.trace(0), Kit.NONE);
        Kit.due("CUT", x.back(0), Kit.NONE);
        Kit.due("CUT", x.result(7), 0);
        Kit.run(x, true, 0, 100);
        Kit.due("ENDED", x.trace(0), Kit.NONE);
        Kit.due("ENDED", x.back(0), Kit.NONE);
    }

    /** Promise 19: of 40 FRAMES the innermost one stands in a LEAF that was put in. */
    private static void backsOfFortyOnePlaces() {
        String deep = "class 1 0; field 1 0 1; method 1 1 0 0; READ 0 0; INT 1; ADD; DUP; WRITE 0 0; INT 40; SUB; ZERO a;"
                + "CALL 0 0; RETURN; a: CALL 0 1; RETURN; method 2 1 0 0; INT 1; INT %d; DIV; OUT; RETURN";
        ShrinkHouse x = Kit.shrunk(String.format(deep, 1), 0, 12);
        Kit.due("it ends", Kit.run(x, true, 0, 20000), "0");
        Kit.due("no places", x.result(7), 0);
        x = Kit.shrunk(String.format(deep, 0), 0, 12);
        Kit.due("put in", x.made(1), 1);
        Kit.due("a TRAP", Kit.run(x, true, 0, 20000), "1");
        Kit.due("by 0, not by FRAMES", x.result(2), 2);
        Kit.due("FRAMES", x.result(4), 40);
        Kit.due("places", x.result(7), 41);
        Kit.due("back(0)", x.back(0), 1002);
        Kit.due("back(1)", x.back(1), 10);
        for (int k = 2; k < 41; k++) {
            Kit.due("back(" + k + ")", x.back(k), 8);
        }
        Kit.due("back(41)", x.back(41), Kit.NONE);
        Kit.due("trace(39)", x.trace(39), 8);
        Kit.due("trace(40)", x.trace(40), Kit.NONE);
        // "as long as neither has too many frames": the program itself has no room for the LEAF's FRAME
        Kit.due("a TRAP", Kit.run(x, false, 0, 20000), "1");
        Kit.due("by FRAMES", x.result(2), 5);
        Kit.due("places", x.result(7), 40);
    }

    /** Promise 20: "The small program is the program from now on, as read() would have it; its ENTRIES are those that were" */
    private static void againIsAsRead() {
        int[] bytes = Kit.outs(shrunk());
        for (State.Story stage : new State.Story[] {Stages::shrunk, Stages::ran, Stages::ranSmall}) {
            State.Story again = State.then(stage, x -> Kit.due("again()", x.again(), true));
            State.Story read = x -> {
                Kit.feed(x, bytes);
                Kit.due("read()", x.read(), 0);
                Kit.due("the first ENTRY", x.entry(2), 0);
                Kit.due("the second ENTRY", x.entry(0), 1);
            };
            State.dueSame("again() and read()", State.of(read), State.of(again));
        }
        typesAfterAgain();
        // "(the TAPE and fault() stay)"
        Map<String, String> before = State.of(Stages::faulty);
        Map<String, String> after = State.of(State.then(Stages::faulty, ShrinkHouse::again));
        for (String question : new String[] {"fault 0", "fault 1", "fault 2", "fault 3", "tape bytes", "tape read"}) {
            Kit.due("again(): " + question, after.get(question), before.get(question));
        }
        Kit.due("a FAULT was there", before.get("fault 0"), "4");
        Kit.due("bytes were there", before.get("tape bytes"), "7");
        Kit.due("no small one", after.get("size true 0"), "0");
        Kit.due("no run", after.get("result 0"), "-1");
        Kit.due("nothing put out", after.get("output"), "");
    }

    /** Each question is the first one behind again(), and types were asked of the program ahead of it. */
    private static void typesAfterAgain() {
        int[] heights = {0, 1, 0, 1, 2, 1, 0, 1, 2, 1, 0};
        for (int i = 0; i < heights.length; i++) {
            ShrinkHouse x = shrunk();
            Kit.due("UNSET", x.type(1, 0, 12), Kit.NONE);
            Kit.due("INT", x.type(1, 0, 10), 1);
            Kit.due("again()", x.again(), true);
            Kit.due("how many on the stack at " + i, x.type(0, i, 1), heights[i]);
        }
        ShrinkHouse x = shrunk();
        Kit.due("no local of METHOD 0", x.type(0, 0, 10), Kit.NONE);
        Kit.due("on the stack of METHOD 0", x.type(0, 1, 30), 1);
        Kit.due("again()", x.again(), true);
        Kit.due("local 0 of METHOD 0", x.type(0, 6, 10), 1);
        Kit.due("on the stack of METHOD 0", x.type(0, 1, 30), 1);
        Kit.due("local 1, which is UNSET at first", x.type(0, 0, 11), 0);
    }

    /** A small program is made of the small one, as often as wished: it becomes no smaller in the end. */
    private static void againAndAgain() {
        ShrinkHouse x = entered();
        String last = "";
        for (int n = 0; n < 5; n++) {
            last = Kit.shrink(x, 12);
            Kit.due("again()", x.again(), true);
            Kit.due("no small one", x.again(), false);
            Kit.due("bytes", Integer.toString(x.size(false, 4)), last);
        }
        Kit.due("no smaller", Kit.shrink(x, 12), last);
        Kit.due("no RULE", x.made(2), 0);
        // what was not reached in the program stands in no way of what is there now
        x = Kit.shrunk("class 1 0; method 1 1 0 0; NEW 0; JUMP a; TRAP; a: POP; CALL 0 1; RETURN; method 2 1 0 0; TRAP", 0, 0);
        for (int n = 0; n < 4; n++) {
            Kit.due("METHODS", x.size(true, 2), 2);
            Kit.due("instructions", x.size(true, 3), 5);
            Kit.due("again()", x.again(), true);
            Kit.shrink(x, 0);
        }
        // six ENTRIES in their order
        ShrinkHouse y = new ShrinkHouse();
        Stages.six(y);
        for (int n = 0; n < 3; n++) {
            Kit.due("again()", y.again(), true);
            for (int e = 0; e < 6; e++) {
                Kit.due("run", Kit.run(y, false, e, 10), "0");
                Kit.due("of ENTRY " + e, y.output(0), 8 - e);
                Kit.due("its number", y.entry(5 - e), e);
            }
            Kit.due("no ENTRY 6", Kit.run(y, false, 6, 10), "throws.IllegalArgumentException");
            Kit.shrink(y, 0);
        }
    }

    /** "An object is used for at most 512 calls after it has been made": the last of them is answered as the first. */
    private static void theLastCall() {
        ShrinkHouse x = new ShrinkHouse();
        for (int n = 0; n < 500; n++) {
            Kit.due("feed", x.feed(n, n, n, n, n), n < 200);
        }
        Kit.due("call 501", x.end(0), true);
        Kit.due("call 502", x.feed(0x53480101, 0x00000101, 0x01000000, 0x03000000, 0x00071716), true);
        Kit.due("call 503", x.read(), 0);
        Kit.due("call 504", x.entry(0), 0);
        Kit.due("call 505", Kit.run(x, false, 0, 20000), "0");
        Kit.due("call 506", x.output(0), 7);
        Kit.due("call 507", Kit.shrink(x, 12), "20");
        Kit.due("call 508", x.out(19), 22);
        Kit.due("call 509", Kit.run(x, true, 0, 20000), "0");
        Kit.due("call 510", x.again(), true);
        Kit.due("call 511", Kit.run(x, false, 0, 20000), "0");
        Kit.due("call 512", x.output(0), 7);
    }
}
