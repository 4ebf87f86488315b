import java.util.Arrays;
import java.util.LinkedHashMap;
import java.util.Map;
import java.util.function.ToIntFunction;

/**
 * All that can be asked of an object. The questions are put to several objects that had the same calls, so that none
 * has more calls than an object is used for, and no question sees what another one changed.
 */
final class State {
    /** The calls that an object had so far. */
    interface Story {
        void tell(ShrinkHouse x);
    }

    private static final int ASKED_OF_ONE = 150;

    private final Story story;
    private final Map<String, String> answers = new LinkedHashMap<>();
    private ShrinkHouse one;
    private int asked = ASKED_OF_ONE;

    private State(Story story) {
        this.story = story;
    }

    static Map<String, String> of(Story story) {
        State state = new State(story);
        state.askAll();
        return state.answers;
    }

    /** The container of the small program, be it of more bytes than one object has calls. */
    static int[] outs(Story story) {
        State state = new State(story);
        int[] row = new int[state.anew().size(true, 4)];
        for (int n = 0; n < row.length; n++) {
            int i = n;
            row[i] = state.ask("out", x -> x.out(i));
        }
        return row;
    }

    static Story then(Story first, Story second) {
        return x -> {
            first.tell(x);
            second.tell(x);
        };
    }

    /** The second story leaves all as the first one does, but for the questions that begin so. */
    static void dueSame(String what, Map<String, String> first, Map<String, String> second, String... but) {
        for (Map.Entry<String, String> answer : first.entrySet()) {
            if (!begins(answer.getKey(), but)) {
                Kit.due(what + ": " + answer.getKey(), String.valueOf(second.get(answer.getKey())), answer.getValue());
            }
        }
        for (String question : second.keySet()) {
            if (!begins(question, but)) {
                Kit.due(what + ": " + question + " is answered before, too", first.containsKey(question), true);
            }
        }
    }

    private static boolean begins(String question, String... with) {
        for (String one : with) {
            if (question.startsWith(one)) {
                return true;
            }
        }
        return false;
    }

    private ShrinkHouse anew() {
        ShrinkHouse x = new ShrinkHouse();
        story.tell(x);
        return x;
    }

    private int ask(String question, ToIntFunction<ShrinkHouse> call) {
        if (asked >= ASKED_OF_ONE) {
            one = anew();
            asked = 0;
        }
        asked++;
        int answer = call.applyAsInt(one);
        answers.put(question, Integer.toString(answer));
        return answer;
    }

    private void askAll() {
        for (int what = 0; what < 4; what++) {
            int w = what;
            ask("fault " + w, x -> x.fault(w));
        }
        for (boolean small : new boolean[] {false, true}) {
            askSizes(small);
            askMethods(small);
        }
        askTypes();
        askSmall();
        askKept();
        askRun();
        askTape();
        changeProgram();
        for (int e = 0; e < 7; e++) {
            runEntry(false, e);
            runEntry(true, e);
        }
    }

    private void askSizes(boolean small) {
        for (int what = 0; what < 5; what++) {
            int w = what;
            ask("size " + small + " " + w, x -> x.size(small, w));
        }
    }

    private void askMethods(boolean small) {
        for (int c = 0; c < 10; c++) {
            for (int m = 0; m < 8; m++) {
                int inClass = c;
                int number = m;
                String name = "method " + small + " " + c + " " + m + " ";
                if (ask(name + 0, x -> x.method(small, inClass, number, 0)) == Kit.NONE) {
                    break;
                }
                for (int what = 1; what < 7; what++) {
                    int w = what;
                    ask(name + what, x -> x.method(small, inClass, number, w));
                }
            }
        }
    }

    private void askTypes() {
        int methods = anew().size(false, 2);
        for (int m = 0; m < methods; m++) {
            for (int i = 0; i < 120; i++) {
                if (askType(m, i, 0) == Kit.NONE) {
                    break;
                }
                askType(m, i, 1);
                for (int what = 10; what < 30 && askType(m, i, what) != Kit.NONE; what++) {
                }
                for (int what = 30; what < 40 && askType(m, i, what) != Kit.NONE; what++) {
                }
            }
        }
    }

    private int askType(int m, int i, int what) {
        return ask("type " + m + " " + i + " " + what, x -> x.type(m, i, what));
    }

    private void askSmall() {
        int bytes = anew().size(true, 4);
        for (int n = 0; n <= bytes; n++) {
            int i = n;
            ask("out " + i, x -> x.out(i));
        }
        for (int what = 0; what < 23; what++) {
            int w = what;
            ask("made " + w, x -> x.made(w));
        }
        int methods = anew().size(true, 2);
        for (int m = 0; m < methods; m++) {
            int number = m;
            for (int n = 0; n < 8; n++) {
                int i = n;
                ask("origin " + m + " " + i + " 0", x -> x.origin(number, i, 0));
                ask("origin " + m + " " + i + " 1", x -> x.origin(number, i, 1));
            }
        }
    }

    private void askKept() {
        for (int sort = 0; sort < 3; sort++) {
            for (int c = 0; c < 4; c++) {
                for (int k = 0; k < 4; k++) {
                    int[] of = {sort, c, k};
                    ask("kept " + sort + " " + c + " " + k, x -> x.kept(of[0], of[1], of[2]));
                }
            }
        }
    }

    private void askRun() {
        for (int what = 0; what < 8; what++) {
            int w = what;
            ask("result " + w, x -> x.result(w));
        }
        answers.put("output", Kit.outputs(anew()));
        answers.put("trace", Kit.traces(anew()));
        answers.put("back", Kit.backs(anew()));
    }

    /** end(n) is false for what is more than the TAPE has; what it has is read as a CONTAINER. */
    private void askTape() {
        int low = 0;
        int high = 4000;
        while (low < high) {
            int middle = (low + high + 1) / 2;
            if (anew().end(middle)) {
                low = middle;
            } else {
                high = middle - 1;
            }
        }
        answers.put("tape bytes", Integer.toString(low));
        ShrinkHouse x = anew();
        answers.put("tape read", x.read() + " " + x.fault(1) + " " + x.fault(2) + " " + x.fault(3) + " " + sizes(x));
    }

    private static String sizes(ShrinkHouse x) {
        int[] sizes = new int[5];
        for (int what = 0; what < 5; what++) {
            sizes[what] = x.size(false, what);
        }
        return Arrays.toString(sizes);
    }

    private void changeProgram() {
        int methods = Math.max(1, anew().size(false, 2));
        for (int m = 0; m < methods; m++) {
            answers.put("entry " + m, Integer.toString(anew().entry(m)));
        }
        for (int budget = 0; budget <= 12; budget += 12) {
            ShrinkHouse x = anew();
            answers.put("shrink " + budget, Kit.shrink(x, budget) + " " + Arrays.toString(Kit.outs(x)));
        }
        ShrinkHouse x = anew();
        answers.put("again", x.again() + " " + sizes(x) + " " + Kit.run(x, false, 0, 20000) + " " + Kit.outputs(x));
    }

    private void runEntry(boolean small, int e) {
        ShrinkHouse x = anew();
        StringBuilder text = new StringBuilder(Kit.run(x, small, e, 20000));
        for (int what = 0; what < 8; what++) {
            text.append(' ').append(x.result(what));
        }
        text.append(" | ").append(Kit.outputs(x)).append(" | ").append(Kit.traces(x)).append(" | ");
        answers.put("run " + small + " " + e, text.append(Kit.backs(x)).toString());
    }
}
