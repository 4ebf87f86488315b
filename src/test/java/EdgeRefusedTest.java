import java.util.ArrayList;
import java.util.List;
import java.util.Map;
import java.util.function.Function;

/**
 * Promises 2, 3, 4, 9, 10, 15, 20: each refused call, at each time of an object's life at which it is refused, its answer,
 * and that nothing else is changed by it. Questions, too, change nothing, whatever they ask.
 */
public final class EdgeRefusedTest {
    private static final int MIN = Integer.MIN_VALUE;
    private static final int MAX = Integer.MAX_VALUE;
    private static final String ARGUMENT = "throws.IllegalArgumentException";
    private static final String STATE = "throws.IllegalStateException";
    private static final int[] ODD = {MIN, MIN + 1, -2, -1, 0, 1, 2, 3, 4, 5, 6, 7, 8, 9, 10, 11, 12, 22, 23, 29, 30, 39, 40, 100,
        1000, MAX - 1, MAX};

    private final String stage;
    private final State.Story story;
    private final Map<String, String> before;

    private EdgeRefusedTest(String stage, State.Story story) {
        this.stage = stage;
        this.story = story;
        this.before = State.of(story);
    }

    public static void main(String[] args) {
        for (Map.Entry<String, State.Story> stage : Stages.all().entrySet()) {
            EdgeRefusedTest test = new EdgeRefusedTest(stage.getKey(), stage.getValue());
            test.feeds();
            test.ends();
            test.entries();
            test.shrinks();
            test.runs();
            test.agains();
            test.questions();
            test.faults();
        }
        Kit.finish();
    }

    private ShrinkHouse house() {
        ShrinkHouse x = new ShrinkHouse();
        story.tell(x);
        return x;
    }

    /** These calls are answered so, each of an object of this stage, and all together they change nothing. */
    private void refuses(String what, String answer, List<Function<ShrinkHouse, String>> calls) {
        for (int n = 0; n < calls.size(); n++) {
            Kit.due(stage + ": " + what + " " + n, calls.get(n).apply(house()), answer);
        }
        State.Story more = State.then(story, x -> calls.forEach(call -> call.apply(x)));
        State.dueSame(stage + " after " + what, before, State.of(more));
    }

    /** "false, and nothing comes, if it would have more than 4000" */
    private void feeds() {
        for (int bytes : new int[] {3981, 3999, 4000}) {
            State.Story full = State.then(story, x -> fill(x, bytes));
            Map<String, String> filled = State.of(full);
            Kit.due(stage + ": filled", filled.get("tape bytes"), Integer.toString(bytes));
            State.Story more = State.then(full, x -> Kit.due(stage + ": feed at " + bytes, x.feed(1, 2, 3, 4, 5), false));
            State.dueSame(stage + " after feed at " + bytes, filled, State.of(more));
        }
        ShrinkHouse x = house();
        fill(x, 3980);
        Kit.due(stage + ": feed at 3980", x.feed(1, 2, 3, 4, 5), true);
        Kit.due(stage + ": all of 4000", x.end(4000), true);
    }

    private static void fill(ShrinkHouse x, int bytes) {
        for (int n = 0; n < 200; n++) {
            x.feed(-1, -1, -1, -1, -1);
        }
        x.end(3980);
        x.feed(-1, -1, -1, -1, -1);
        x.end(bytes);
    }

    /** "false, and it stays, if it has not so many, or n is below 0" */
    private void ends() {
        int length = Integer.parseInt(before.get("tape bytes"));
        List<Function<ShrinkHouse, String>> calls = new ArrayList<>();
        for (int n : new int[] {MIN, -4000, -1, length + 1, length + 2, 4001, MAX}) {
            calls.add(x -> Boolean.toString(x.end(n)));
        }
        refuses("end", "false", calls);
        // all that it has is not too many, and leaves it as it is
        State.dueSame(stage + " after end(all)", before, State.of(State.then(story, x -> Kit.due("end", x.end(length), true))));
        Kit.due(stage + ": end(0)", house().end(0), true);
    }

    /** "NONE, and nothing happens: no such METHOD, one that is not STATIC or has PARAMS, or there are 6." */
    private void entries() {
        int methods = Integer.parseInt(before.get("size false 2"));
        List<Function<ShrinkHouse, String>> calls = new ArrayList<>();
        for (int m : new int[] {MIN, -1, methods, methods + 1, 80, 1000, MAX}) {
            calls.add(x -> Integer.toString(x.entry(m)));
        }
        for (int m = 0; m < methods; m++) {
            int number = m;
            if (before.get("entry " + m).equals("-1")) {
                calls.add(x -> Integer.toString(x.entry(number)));
            }
        }
        refuses("entry", "-1", calls);
        if (methods == Stages.METHODS) {
            Kit.due(stage + ": not STATIC", before.get("entry 2"), "-1");
            Kit.due(stage + ": with PARAMS", before.get("entry 1"), "-1");
            Kit.due(stage + ": with a PARAM", before.get("entry 3"), "-1");
        }
        if (stage.equals("six ENTRIES")) {
            Kit.due("the seventh", before.get("entry 0"), "-1");
            Kit.due("the eighth", before.get("entry 1"), "-1");
        }
        entriesStay(methods);
    }

    /** "one that is one already stays it": it is answered, and nothing changes, though there are six. */
    private void entriesStay(int methods) {
        int many = 0;
        for (int e = 0; e < 6; e++) {
            many += before.get("run false " + e).startsWith("throws") ? 0 : 1;
        }
        int seen = 0;
        for (int m = 0; m < methods; m++) {
            int number = Integer.parseInt(before.get("entry " + m));
            int method = m;
            if (number >= 0 && number < many) {
                seen++;
                State.Story more = State.then(story, x -> Kit.due(stage + ": entry", x.entry(method), number));
                State.dueSame(stage + " after an ENTRY's entry", before, State.of(more));
            }
        }
        Kit.due(stage + ": each ENTRY was seen", seen, many);
    }

    /** "IllegalArgumentException: the BUDGET is not 0 .. 12. IllegalStateException: no program, or no ENTRY." */
    private void shrinks() {
        List<Function<ShrinkHouse, String>> calls = new ArrayList<>();
        for (int budget : new int[] {MIN, -2, -1, 13, 14, 256, MAX}) {
            calls.add(x -> Kit.shrink(x, budget));
        }
        refuses("shrink of another BUDGET", ARGUMENT, calls);
        if (before.get("run false 0").startsWith("throws")) {
            calls.clear();
            for (int budget = 0; budget <= 12; budget++) {
                int b = budget;
                calls.add(x -> Kit.shrink(x, b));
            }
            refuses("shrink without an ENTRY", STATE, calls);
        }
    }

    /** "IllegalStateException: no such program. IllegalArgumentException: no such ENTRY, or steps are not 1 .. 20000." */
    private void runs() {
        for (boolean small : new boolean[] {false, true}) {
            boolean none = before.get("size " + small + " 0").equals("0");
            int many = 0;
            for (int e = 0; e < 6; e++) {
                many += before.get("run " + small + " " + e).startsWith("throws") ? 0 : 1;
            }
            List<Function<ShrinkHouse, String>> calls = new ArrayList<>();
            for (int e : new int[] {MIN, -1, many, many + 1, 6, MAX}) {
                calls.add(x -> Kit.run(x, small, e, 100));
            }
            for (int steps : new int[] {MIN, -1, 0, 20001, 20002, MAX}) {
                calls.add(x -> Kit.run(x, small, 0, steps));
                calls.add(x -> Kit.run(x, small, -1, steps));
            }
            if (none) {
                calls.add(x -> Kit.run(x, small, 0, 1));
            }
            refuses("run " + small, none ? STATE : ARGUMENT, calls);
        }
    }

    /** "false, and nothing happens, without a small one" */
    private void agains() {
        if (before.get("size true 0").equals("0")) {
            refuses("again", "false", List.of(x -> Boolean.toString(x.again()), x -> Boolean.toString(x.again())));
        } else {
            Kit.due(stage + ": again", house().again(), true);
        }
    }

    /** What is asked changes nothing. */
    private void questions() {
        State.Story first = State.then(story, x -> {
            for (int odd : ODD) {
                x.fault(odd);
                x.size(false, odd);
                x.size(true, odd);
                x.out(odd);
                x.made(odd);
                x.result(odd);
                x.output(odd);
                x.trace(odd);
                x.back(odd);
            }
        });
        State.dueSame(stage + " after questions", before, State.of(first));
        State.Story second = State.then(story, x -> {
            for (int odd : ODD) {
                x.method(odd % 2 == 0, 0, odd, 4);
                x.method(odd % 2 == 0, odd, 0, 4);
                x.type(odd, 0, 0);
                x.type(0, odd, 1);
                x.type(0, 1, odd);
                x.type(1, 2, odd);
                x.kept(odd, 0, 0);
                x.kept(2, odd, odd);
                x.origin(odd, 0, 0);
                x.origin(0, odd, 1);
            }
        });
        State.dueSame(stage + " after more questions", before, State.of(second));
    }

    /** "else its FAULT (and all else stays)": but for the TAPE, which is empty, and fault() */
    private void faults() {
        String head = "class 1 0; method 1 1 0 1;";
        String[] sources = {"class 1 0; field 1 0 0; field 1 0 0", head + "POP; TRAP", head + "NULL; OUT; TRAP",
            head + "INT 1;".repeat(11) + "TRAP", head + "a: NULL; JUMP a", head + "NULL"};
        for (int k = 0; k < sources.length; k++) {
            int[] bytes = Kit.bytes(sources[k]);
            dueFault(k + 2, bytes);
        }
        dueFault(1, new int[0]);
        dueFault(1, Kit.bytes(head + "TRAP; READ 0 0"));
        dueFault(1, Kit.joined(Kit.bytes(Stages.PROGRAM), new int[] {0}));
    }

    private void dueFault(int number, int[] bytes) {
        State.Story more = State.then(story, x -> {
            x.end(0);
            Kit.feed(x, bytes);
            Kit.due(stage + ": read()", x.read(), number);
        });
        Map<String, String> after = State.of(more);
        State.dueSame(stage + " after FAULT " + number, before, after, "fault", "tape");
        Kit.due(stage + ": fault(0)", after.get("fault 0"), Integer.toString(number));
        Kit.due(stage + ": the TAPE is empty", after.get("tape bytes"), "0");
    }
}
