import java.util.ArrayList;
import java.util.Arrays;
import java.util.List;
import java.util.Random;
import java.util.function.ToIntFunction;

/**
 * Random containers (always the same ones), with and without a FAULT: all that can be asked of them, of their small
 * programs, of runs, and of what again() makes, against the Model.
 */
public final class ModelTest {
    /** So many questions to one object at most, beside what it is told before. */
    private static final int QUESTIONS = 250;

    /** A question, and the answer that is due. */
    private static final class Question {
        final String text;
        final ToIntFunction<ShrinkHouse> ask;
        final int due;

        Question(String text, ToIntFunction<ShrinkHouse> ask, int due) {
            this.text = text;
            this.ask = ask;
            this.due = due;
        }
    }

    private final String name;
    private final Random random;
    /** Sums of what made() tells. */
    private final int[] seen = new int[23];

    private ModelTest(String name, long seed) {
        this.name = name;
        random = new Random(seed);
    }

    public static void main(String[] args) {
        int faults = 0;
        int programs = 0;
        int[] seen = new int[23];
        int[] numbers = new int[8];
        int count = args.length > 0 ? Integer.parseInt(args[0]) : 1200;
        int from = args.length > 1 ? Integer.parseInt(args[1]) : 0;
        for (long seed = from; seed < from + count; seed++) {
            ModelTest test = new ModelTest("seed " + seed, seed);
            int[] bytes = Kit.bytes(new Wild(seed).source());
            if (bytes.length > 4000) {
                continue;
            }
            int fault = test.check(bytes);
            numbers[fault]++;
            programs += fault == 0 ? 1 : 0;
            for (int n = 0; n < 4; n++) {
                int[] spoiled = n < 2 ? test.spoiled(bytes) : Kit.bytes(test.spoiledSource(new Wild(seed).source()));
                int found = spoiled.length > 4000 ? 1 : test.check(spoiled);
                numbers[found]++;
                faults += found == 0 ? 0 : 1;
            }
            for (int what = 0; what < seen.length; what++) {
                seen[what] += test.seen[what];
            }
        }
        System.out.println("  " + programs + " programs, " + faults + " with a FAULT; made " + Arrays.toString(seen)
                + "; FAULTS " + Arrays.toString(numbers));
        if (args.length == 0) {
            Kit.due("enough programs", programs > 200, true);
            Kit.due("enough of them with a FAULT", faults > 1000, true);
            for (int what = 0; what < seen.length; what++) {
                Kit.due("enough of made(" + what + ")", seen[what] > 30 || what > 3 && what < 11, true);
            }
            for (int number = 0; number < 8; number++) {
                Kit.due("enough of FAULT " + number, numbers[number] > 30, true);
            }
        }
        Kit.finish();
    }

    /** One byte is another one, or is missing, or is there twice. */
    private int[] spoiled(int[] bytes) {
        int at = random.nextInt(bytes.length);
        int[] head = Arrays.copyOf(bytes, at);
        int[] tail = Arrays.copyOfRange(bytes, at + 1, bytes.length);
        switch (random.nextInt(8)) {
            case 0:
                return Kit.joined(head, tail);
            case 1:
                return bytes.length < 4000 ? Kit.joined(head, new int[] {bytes[at], bytes[at]}, tail) : bytes;
            case 2:
                return Kit.joined(head, new int[] {random.nextInt(256)}, tail);
            default:
                int near = bytes[at] + (random.nextBoolean() ? 1 : -1) * (1 + random.nextInt(2));
                return Kit.joined(head, new int[] {near & 255}, tail);
        }
    }

    /** A NAME is another one's, or an instruction is missing, or is another one; jumps to the last one may be wrong then. */
    private String spoiledSource(String source) {
        List<String> lines = new ArrayList<>(Arrays.asList(source.split("\n")));
        List<Integer> places = new ArrayList<>();
        String kind = random.nextInt(3) > 0 ? "[A-Z].*" : random.nextBoolean() ? "field.*" : "method.*";
        for (int n = 0; n < lines.size(); n++) {
            if (lines.get(n).matches(kind)) {
                places.add(n);
            }
        }
        if (places.isEmpty()) {
            return source;
        }
        int at = places.get(random.nextInt(places.size()));
        String other = lines.get(places.get(random.nextInt(places.size())));
        if (!Character.isUpperCase(other.charAt(0))) {
            lines.set(at, lines.get(at).replaceFirst(" \\d+", " " + other.split(" ")[1]));
            return String.join("\n", lines);
        }
        if (random.nextInt(3) == 0) {
            lines.remove(at);
        } else {
            lines.set(at, other);
        }
        return String.join("\n", lines);
    }

    /** Its FAULT. */
    private int check(int[] bytes) {
        int[] told = {0, Kit.NONE, Kit.NONE, Kit.NONE};
        Model model = null;
        try {
            model = new Model(bytes);
        } catch (Model.Fault e) {
            told = e.told;
        }
        Kit.dueFault(name, bytes, told[0], told[1], told[2], told[3]);
        if (model != null) {
            State.Story story = x -> {
                Kit.feed(x, bytes);
                x.read();
            };
            ask(story, ofProgram(model));
            shrink(model, story, new ArrayList<>(), random.nextInt(13), 2);
        }
        return told[0];
    }

    private void ask(State.Story story, List<Question> questions) {
        ShrinkHouse x = null;
        for (int n = 0; n < questions.size(); n++) {
            if (n % QUESTIONS == 0) {
                x = new ShrinkHouse();
                story.tell(x);
            }
            Question one = questions.get(n);
            Kit.due(name + ": " + one.text, one.ask.applyAsInt(x), one.due);
        }
    }

    private static void add(List<Question> all, String text, ToIntFunction<ShrinkHouse> ask, int due) {
        all.add(new Question(text, ask, due));
    }

    private static void addFaces(List<Question> all, Model model, boolean small) {
        int[] sizes = {model.classes.size(), model.fields(), model.methods.size(), model.instructions(), model.bytes.length};
        for (int what = 0; what < 5; what++) {
            int w = what;
            add(all, "size(" + small + ", " + what + ")", x -> x.size(small, w), sizes[what]);
        }
        for (Model.Method m : model.methods) {
            int[] faces = {m.name, m.isStatic ? 1 : 0, m.result, m.params.size(), m.locals, m.code.size(), m.number};
            for (int what = 0; what < 7; what++) {
                int w = what;
                add(all, "method(" + small + ", " + m.owner + ", " + m.place + ", " + what + ")",
                        x -> x.method(small, m.owner, m.place, w), faces[what]);
            }
        }
    }

    private static List<Question> ofProgram(Model model) {
        List<Question> all = new ArrayList<>();
        addFaces(all, model, false);
        for (Model.Method m : model.methods) {
            for (int i = 0; i < m.code.size(); i++) {
                Model.Instruction one = m.code.get(i);
                addType(all, m.number, i, 0, one.stack == null ? 0 : 1);
                addType(all, m.number, i, 1, one.stack == null ? Kit.NONE : one.stack.size());
                for (int l = 0; one.stack != null && l < m.locals; l++) {
                    addType(all, m.number, i, 10 + l, ModelTypes.number(one.locals.get(l)));
                }
                for (int k = 0; one.stack != null && k < one.stack.size(); k++) {
                    addType(all, m.number, i, 30 + k, ModelTypes.number(one.stack.get(k)));
                }
            }
        }
        return all;
    }

    private static void addType(List<Question> all, int m, int i, int what, int due) {
        add(all, "type(" + m + ", " + i + ", " + what + ")", x -> x.type(m, i, what), due);
    }

    /** Entries, the small program, runs; then the same of what again() makes of it. */
    private void shrink(Model model, State.Story before, List<Integer> entries, int budget, int rounds) {
        List<Integer> chosen = new ArrayList<>(entries);
        for (Model.Method m : model.methods) {
            boolean can = m.isStatic && m.params.isEmpty() && !chosen.contains(m.number);
            if (can && chosen.size() < 6 && (chosen.isEmpty() || random.nextInt(3) > 0)) {
                chosen.add(m.number);
            }
        }
        if (chosen.isEmpty() || rounds == 0) {
            return;
        }
        ModelShrink small = new ModelShrink(model, chosen, budget);
        for (int what = 0; what < seen.length; what++) {
            seen[what] += small.made[what];
        }
        int[] bytes = small.container();
        State.Story story = x -> {
            before.tell(x);
            for (int method : chosen) {
                x.entry(method);
            }
            Kit.due(name + ": shrink(" + budget + ")", x.shrink(budget), bytes.length);
        };
        Model little = new Model(bytes);
        ask(story, ofSmall(model, small, little));
        List<Integer> anew = new ArrayList<>();
        for (int e = 0; e < chosen.size(); e++) {
            anew.add(small.newMethod(chosen.get(e)));
            runs(story, false, e, new ModelRun(model, chosen.get(e), 2 + random.nextInt(400)), null);
            ModelRun run = new ModelRun(little, anew.get(e), 2 + random.nextInt(400));
            runs(story, true, e, run, small);
        }
        State.Story after = x -> {
            story.tell(x);
            x.again();
        };
        List<Question> all = ofProgram(little);
        add(all, "fault(0)", x -> x.fault(0), 0);
        add(all, "made(2)", x -> x.made(2), 0);
        add(all, "size(true, 4)", x -> x.size(true, 4), 0);
        ask(after, all);
        shrink(little, after, anew, random.nextInt(13), rounds - 1);
    }

    private static List<Question> ofSmall(Model model, ModelShrink small, Model little) {
        List<Question> all = new ArrayList<>();
        addFaces(all, little, true);
        for (int i = 0; i <= little.bytes.length; i++) {
            int at = i;
            add(all, "out(" + i + ")", x -> x.out(at), i < little.bytes.length ? little.bytes[i] : Kit.NONE);
        }
        for (int what = 0; what < 23; what++) {
            int w = what;
            boolean other = what > 3 && what < 11;
            add(all, "made(" + what + ")", x -> x.made(w), other ? Kit.NONE : small.made[what]);
        }
        for (int c = 0; c < model.classes.size(); c++) {
            int of = c;
            add(all, "kept(0, " + c + ")", x -> x.kept(0, of, 0), small.newClass(c));
            for (int k = 0; k < model.classes.get(c).fields.size(); k++) {
                int at = k;
                add(all, "kept(1, " + c + ", " + k + ")", x -> x.kept(1, of, at), small.newField(c, k));
            }
            for (Model.Method m : model.classes.get(c).methods) {
                add(all, "kept(2, " + c + ", " + m.place + ")", x -> x.kept(2, of, m.place), small.newPlace(m));
            }
        }
        for (int m = 0; m < small.origins.size(); m++) {
            for (int i = 0; i < small.origins.get(m).size(); i++) {
                addOrigin(all, m, i, small.origins.get(m).get(i));
            }
        }
        return all;
    }

    private static void addOrigin(List<Question> all, int m, int i, List<Integer> places) {
        for (int k = 0; k <= places.size(); k++) {
            int at = k;
            add(all, "origin(" + m + ", " + i + ", " + k + ")", x -> x.origin(m, i, at),
                    k < places.size() ? places.get(k) : Kit.NONE);
        }
    }

    /** The small program, if it was that, is given for the ORIGINS. */
    private void runs(State.Story before, boolean isSmall, int e, ModelRun run, ModelShrink small) {
        int steps = run.how == 2 ? run.steps : run.steps + random.nextInt(3);
        List<Integer> back = new ArrayList<>();
        for (int place : run.trace) {
            back.addAll(small == null ? List.of(place) : small.origins.get(place / 1000).get(place % 1000));
        }
        String text = "run(" + isSmall + ", " + e + ", " + steps + ")";
        State.Story story = x -> {
            before.tell(x);
            Kit.due(name + ": " + text, x.run(isSmall, e, steps), run.how);
        };
        int[] results = {run.how, run.steps, run.trap, run.output.size(), run.trace.size(), run.objects, run.mostFrames,
            back.size()};
        List<Question> all = new ArrayList<>();
        for (int what = 0; what < 8; what++) {
            int w = what;
            add(all, text + ": result(" + what + ")", x -> x.result(w), results[what]);
        }
        for (int i = 0; i <= run.output.size() && i < 102; i++) {
            int at = i;
            add(all, text + ": output(" + i + ")", x -> x.output(at), i < run.output.size() && i < 100 ? run.output.get(i) : 0);
        }
        for (int k = 0; k <= back.size(); k++) {
            int at = k;
            add(all, text + ": trace(" + k + ")", x -> x.trace(at), k < run.trace.size() ? run.trace.get(k) : Kit.NONE);
            add(all, text + ": back(" + k + ")", x -> x.back(at), k < back.size() ? back.get(k) : Kit.NONE);
        }
        ask(story, all);
    }
}
