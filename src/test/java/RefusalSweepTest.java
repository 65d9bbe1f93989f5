import java.util.ArrayList;
import java.util.List;

/**
 * Every call with every number at and around its bounds, in several states, compared with the model: the first refusal
 * that fits is the one answered, and a call that is refused changes nothing.
 */
public final class RefusalSweepTest {
    private static final Check CHECK = new Check("RefusalSweepTest");
    private static final int[] EDGES = {Integer.MIN_VALUE, -2, -1, 0, 1, 2, 3, 4, 5, 6, 7, 8, 12, 13, 32, Integer.MAX_VALUE};
    private static final String[] OF_NONE = {"erase", "fault", "mesh", "undo", "after", "fewest"};
    private static final String[] OF_ONE = {"write", "cycle", "frame", "keep", "back", "phase", "pop", "drop", "told"};
    private static final String[] OF_TWO = {
        "station", "slot", "give", "join", "part", "spoils", "hops", "append", "reckon", "each"};
    private static final String PAIRS = "mesh 4 2 1 5;link 0 1;link 2 3;share 0 16;share 2 16;want 1 0;want 3 0";

    /** A state: a text that is done, calls behind it, and letters that are written then. */
    private record State(String text, String calls, String letters) {
    }

    public static void main(String[] args) {
        State[] states = {
            new State("", "", ""),
            new State(PAIRS, "frame(1) keep(0) give(0,0) tally(0,0,0,0,0) tally(1,3,1,2,3) append(1,1)", "link 0 9"),
            new State("mesh 2 1 1 1", "tally(2,1,9,9,9) cycle(0) cycle(0) undo()", "want 1 0"),
            new State("mesh 2 2 1 5;link 0 1;share 0 16;want 1 0", "frame(1) part(0,1) keep(1) tally(0,2,5,6,7) append(0,0) append(0,0) tally(1,0,0,0,0)"
                + " cycle(0) cycle(0) cycle(0) cycle(0) cycle(0) cycle(0) cycle(0)", " ".repeat(200))};
        for (State state : states) {
            sweep(state);
        }
        CHECK.end();
    }

    private static void sweep(State state) {
        for (String name : OF_NONE) {
            compare(state, name);
        }
        for (String name : OF_ONE) {
            for (int a : EDGES) {
                compare(state, name, a);
            }
        }
        for (int letter : new int[] {-1, 0, 255, 256}) {
            compare(state, "write", letter);
        }
        for (String name : OF_TWO) {
            for (int a : EDGES) {
                for (int b : EDGES) {
                    compare(state, name, a, b);
                }
            }
        }
        sweepTally(state);
    }

    private static void sweepTally(State state) {
        int[] numbers = {-1000, -999, 999, 1000};
        for (int tally : new int[] {-1, 0, 2, 3}) {
            for (int what : new int[] {-1, 0, 1, 2, 3, 4}) {
                for (int a : numbers) {
                    for (int b : numbers) {
                        for (int c : numbers) {
                            compare(state, "tally", tally, what, a, b, c);
                        }
                    }
                }
            }
        }
    }

    private static void compare(State state, String name, int... numbers) {
        Run run = new Run(CHECK, "sweep of '" + state.text + "'");
        Model model = new Model();
        writeBoth(run, model, state.text);
        if (!state.text.isEmpty()) {
            both(run, model, "mesh()");
        }
        for (String call : state.calls.isEmpty() ? new String[0] : state.calls.split(" ")) {
            both(run, model, call);
        }
        writeBoth(run, model, state.letters);
        List<String> told = new ArrayList<>();
        for (int number : numbers) {
            told.add(Integer.toString(number));
        }
        String call = name + "(" + String.join(", ", told) + ")";
        int due = model.call(name, numbers);
        if (due < 0) {
            run.refused(call, due);
        } else {
            run.due(call, due);
        }
    }

    private static void both(Run run, Model model, String told) {
        int open = told.indexOf('(');
        String inside = told.substring(open + 1, told.length() - 1);
        String[] parts = inside.isEmpty() ? new String[0] : inside.split(",");
        int[] numbers = new int[parts.length];
        for (int i = 0; i < parts.length; i++) {
            numbers[i] = Integer.parseInt(parts[i].trim());
        }
        run.due(told, model.call(told.substring(0, open), numbers));
    }

    private static void writeBoth(Run run, Model model, String text) {
        run.write(text);
        for (int i = 0; i < text.length(); i++) {
            model.call("write", text.charAt(i));
        }
    }
}
