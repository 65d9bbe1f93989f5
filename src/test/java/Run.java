import java.util.ArrayList;
import java.util.Arrays;
import java.util.List;

/**
 * A run of calls on a new object, each told as it is written ("give(0, 2)") with the answer that is due.
 * The run can be played again, which is how a refused call is shown to have changed nothing: what can be seen
 * behind it is compared with what is seen in the same run without it. No object gets more calls than are promised.
 */
final class Run {
    private static final int MOST_CALLS = 512;
    private static final int VIEWS = 5;

    private record Call(String name, int[] numbers) {
        static Call of(String told) {
            int open = told.indexOf('(');
            String inside = told.substring(open + 1, told.length() - 1).trim();
            int[] numbers = inside.isEmpty() ? new int[0]
                : Arrays.stream(inside.split(",")).map(String::trim).mapToInt(Integer::parseInt).toArray();
            return new Call(told.substring(0, open), numbers);
        }
    }

    /** An object that counts its calls. */
    private static final class Counted {
        private final SlotMesh mesh = new SlotMesh();
        private int calls;

        int answer(String name, int... numbers) {
            calls++;
            if (calls > MOST_CALLS) {
                throw new IllegalStateException("the test's own run has more than 512 calls");
            }
            return Calls.answer(mesh, name, numbers);
        }

        int answer(Call call) {
            return answer(call.name, call.numbers);
        }
    }

    private final Check check;
    private final String promise;
    private final Counted object = new Counted();
    private final List<Call> done = new ArrayList<>();

    /** A new object; the promise stands ahead of everything that this run prints. */
    Run(Check check, String promise) {
        this.check = check;
        this.promise = promise;
    }

    /** A new object with this text done, which must be sound. */
    static Run of(Check check, String promise, String text) {
        Run run = new Run(check, promise);
        run.write(text);
        run.due("mesh()", text.split(";").length);
        return run;
    }

    Run write(String text) {
        for (int i = 0; i < text.length(); i++) {
            answer(new Call("write", new int[] {text.charAt(i)}));
        }
        return this;
    }

    int answer(String told) {
        return answer(Call.of(told));
    }

    private int answer(Call call) {
        done.add(call);
        return object.answer(call);
    }

    Run due(String told, int due) {
        check.due(promise + ": " + told, answer(told), due);
        return this;
    }

    /** The same call for several numbers, put where the # stands: the first for 0, the next for 1, and so on. */
    Run dueFromZero(String told, int... due) {
        for (int i = 0; i < due.length; i++) {
            due(told.replace("#", Integer.toString(i)), due[i]);
        }
        return this;
    }

    /** A call that is refused: its answer, and that nothing changed. */
    Run refused(String told, int due) {
        Call call = Call.of(told);
        int got = object.answer(call);
        check.due(promise + ": " + told, got, due);
        for (int view = 0; view < VIEWS; view++) {
            check.due(promise + ": nothing changed behind " + told + ", view " + view,
                view(replay(call), view).equals(view(replay(null), view)));
        }
        return this;
    }

    /** A call that only asks: its answer, and that nothing changed. */
    Run asked(String told, int due) {
        return refused(told, due);
    }

    private Counted replay(Call last) {
        Counted again = new Counted();
        for (Call call : done) {
            again.answer(call);
        }
        if (last != null) {
            again.answer(last);
        }
        return again;
    }

    /** Each view changes the object that it looks at, so it has one of its own. */
    private static String view(Counted x, int view) {
        StringBuilder seen = new StringBuilder();
        switch (view) {
            case 0:
                whatStands(x, seen);
                break;
            case 1:
                for (int left = x.answer("undo"); left >= 0; left = x.answer("undo")) {
                    seen.append(left).append(": ");
                    mesh(x, seen);
                }
                break;
            case 2:
                for (int k = 0; k < 2; k++) {
                    seen.append(x.answer("back", k)).append(": ");
                    mesh(x, seen);
                    seen.append(x.answer("undo")).append(' ');
                }
                break;
            case 3:
                tallies(x, seen);
                break;
            default:
                seen.append(x.answer("write", ' ')).append(' ').append(x.answer("mesh")).append(": ");
                mesh(x, seen);
                seen.append(x.answer("erase"));
                break;
        }
        return seen.toString();
    }

    private static void whatStands(Counted x, StringBuilder seen) {
        rows(x, seen, "told", 11);
        int stations = x.answer("told", 0);
        for (int station = 0; station < stations; station++) {
            pairs(x, seen, "station", station, 6);
        }
        int slots = x.answer("told", 1);
        for (int slot = 0; slot < slots; slot++) {
            pairs(x, seen, "slot", slot, 3);
        }
        rows(x, seen, "phase", 5);
        seen.append(x.answer("fault")).append(' ').append(x.answer("after")).append(' ').append(x.answer("fewest"));
    }

    private static void mesh(Counted x, StringBuilder seen) {
        for (int what : new int[] {1, 2, 7}) {
            seen.append(x.answer("told", what)).append(' ');
        }
        int stations = x.answer("told", 0);
        seen.append(stations).append(' ');
        for (int station = 0; station < stations; station++) {
            for (int what : new int[] {0, 1, 2, 4}) {
                seen.append(x.answer("station", station, what)).append(' ');
            }
        }
        rows(x, seen, "phase", 5);
    }

    private static void tallies(Counted x, StringBuilder seen) {
        for (int tally = 0; tally < 3; tally++) {
            pairs(x, seen, "reckon", tally, 4);
            for (int last = x.answer("pop", tally); last >= 0; last = x.answer("pop", tally)) {
                seen.append(last).append(' ');
            }
            seen.append(x.answer("drop", tally)).append(", ");
        }
    }

    private static void rows(Counted x, StringBuilder seen, String name, int count) {
        for (int i = 0; i < count; i++) {
            seen.append(x.answer(name, i)).append(' ');
        }
    }

    private static void pairs(Counted x, StringBuilder seen, String name, int first, int count) {
        for (int i = 0; i < count; i++) {
            seen.append(x.answer(name, first, i)).append(' ');
        }
    }
}
