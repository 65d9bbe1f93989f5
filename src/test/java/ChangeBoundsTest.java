/** The bounds of what is done, undone, kept and brought back: promises 10 to 15. */
public final class ChangeBoundsTest {
    private static final Check CHECK = new Check("ChangeBoundsTest");
    private static final int UNKNOWN = SlotMesh.UNKNOWN;
    private static final int NOT = SlotMesh.NOT;
    private static final int LEAST = Integer.MIN_VALUE;
    private static final int GREATEST = Integer.MAX_VALUE;
    /** 0 and 2 always ask and are always heard, by 1 and by 3: in a frame each takes all slots that it wants. */
    private static final String TWO_PAIRS = "mesh 4 4 1 5;link 0 1;link 2 3;share 0 16;share 2 16;want 0 4;want 2 4;want 1 0;want 3 0";

    public static void main(String[] args) {
        giveDownToNone();
        giveRefused();
        joinAndPartRefused();
        joinUpToAllAndPartDownToNone();
        clashesOfAll();
        undoUpToEight();
        undoRoundAndRound();
        undoOfEachKind();
        undoRefused();
        refusedCallsAreNotUndone();
        keepRefused();
        backRefused();
        keptApart();
        backEndsUndoing();
        keptUpToAText();
        CHECK.end();
    }

    private static Run twoPairs(String promise) {
        return Run.of(CHECK, promise, TWO_PAIRS).due("frame(1)", 4);
    }

    private static void giveDownToNone() {
        Run run = twoPairs("10: give()");
        run.due("give(0, 3)", 3).refused("give(0, 3)", NOT).due("give(0, 0)", 2).due("give(0, 1)", 1);
        run.refused("give(0, 0)", NOT).due("give(0, 2)", 0).due("station(0, 4)", 0).due("station(2, 4)", 15);
        for (int slot = 0; slot < 4; slot++) {
            run.refused("give(0, " + slot + ")", NOT).refused("give(1, " + slot + ")", NOT);
        }
    }

    private static void giveRefused() {
        Run run = twoPairs("10: give() refused");
        for (int no : new int[] {-1, 4, 5, 32, 34, LEAST, GREATEST}) {
            run.refused("give(" + no + ", 0)", UNKNOWN).refused("give(0, " + no + ")", UNKNOWN);
            run.refused("give(" + no + ", " + no + ")", UNKNOWN).refused("give(1, " + no + ")", UNKNOWN);
        }
        Run few = Run.of(CHECK, "10: one station, one slot too many", "mesh 2 1 1 1;link 0 1;share 1 16;want 0 0").due("cycle(0)", 2);
        few.refused("give(2, 0)", UNKNOWN).refused("give(1, 1)", UNKNOWN).refused("give(0, 0)", NOT).due("give(1, 0)", 0);
    }

    private static void joinAndPartRefused() {
        Run run = twoPairs("11, 12: refused");
        int[] none = {-1, 4, 5, 32, 33, LEAST, GREATEST};
        for (String name : new String[] {"join", "part"}) {
            for (int no : none) {
                run.refused(name + "(" + no + ", 1)", UNKNOWN).refused(name + "(1, " + no + ")", UNKNOWN);
                run.refused(name + "(" + no + ", " + no + ")", UNKNOWN);
            }
            for (int station = 0; station < 4; station++) {
                run.refused(name + "(" + station + ", " + station + ")", UNKNOWN);
            }
        }
        run.refused("join(0, 1)", NOT).refused("join(1, 0)", NOT).refused("join(2, 3)", NOT);
        run.refused("part(0, 2)", NOT).refused("part(3, 0)", NOT);
        run.due("part(1, 0)", 0).refused("part(0, 1)", NOT).refused("part(1, 0)", NOT);
        run.due("join(1, 0)", 0).refused("join(0, 1)", NOT).refused("join(1, 0)", NOT);
    }

    private static void joinUpToAllAndPartDownToNone() {
        Run run = Run.of(CHECK, "11, 12: from none to all and back", "mesh 4 1 1 1");
        int links = 0;
        for (int one = 0; one < 4; one++) {
            for (int other = 0; other < one; other++) {
                run.refused("part(" + one + ", " + other + ")", NOT).due("join(" + one + ", " + other + ")", 0);
                run.refused("join(" + other + ", " + one + ")", NOT);
                links++;
                run.due("told(3)", links);
            }
        }
        for (int one = 0; one < 4; one++) {
            for (int other = 0; other < one; other++) {
                run.due("part(" + other + ", " + one + ")", 0).refused("part(" + one + ", " + other + ")", NOT);
                links--;
                run.due("told(3)", links);
            }
        }
        run.due("told(3)", 0).dueFromZero("station(#, 2)", 0, 0, 0, 0);
    }

    /** Four senders with four slots each: as many clashes as six pairs can have, and none again. */
    private static void clashesOfAll() {
        Run run = Run.of(CHECK, "11: clashes pair by pair and slot by slot", "mesh 8 4 1 1;link 0 4;link 1 5;link 2 6;link 3 7"
            + ";share 0 16;share 1 16;share 2 16;share 3 16;want 0 4;want 1 4;want 2 4;want 3 4;want 4 0;want 5 0;want 6 0;want 7 0");
        run.due("frame(1)", 8).dueFromZero("slot(#, 0)", 15, 15, 15, 15).due("told(4)", 0);
        run.due("join(4, 5)", 0).due("part(4, 5)", 0);
        run.due("join(0, 5)", 4).due("part(0, 5)", 0);
        run.due("join(0, 1)", 4).due("join(1, 2)", 12).due("join(2, 3)", 20).dueFromZero("slot(#, 2)", 5, 5, 5, 5);
        run.due("join(3, 0)", 24).due("join(0, 2)", 24).due("join(1, 3)", 24).dueFromZero("slot(#, 2)", 6, 6, 6, 6).due("told(4)", 24);
        run.due("give(0, 0)", 3).dueFromZero("slot(#, 2)", 3, 6, 6, 6).due("told(4)", 21);
        run.due("part(0, 1)", 21).due("part(0, 2)", 21).due("part(0, 3)", 12).due("part(1, 2)", 12);
        run.due("part(1, 3)", 4).due("part(2, 3)", 0);
    }

    private static void undoUpToEight() {
        for (int calls = 0; calls <= 10; calls++) {
            Run run = Run.of(CHECK, "13: undo() behind " + calls + " calls", "mesh 2 1 1 1");
            int[] lots = new int[calls + 1];
            for (int i = 0; i < calls; i++) {
                lots[i] = run.answer("told(7)");
                run.due("cycle(0)", 0).due("told(9)", Math.min(8, i + 1));
            }
            int undone = 0;
            for (int left = Math.min(8, calls) - 1; left >= 0; left--) {
                undone++;
                run.due("undo()", left).due("told(9)", left).due("told(7)", lots[calls - undone]);
            }
            run.refused("undo()", NOT).due("told(7)", calls > 8 ? lots[calls - 8] : 1);
            run.due("cycle(0)", 0).due("undo()", 0).refused("undo()", NOT);
        }
    }

    /** Some done, fewer undone, over and over, past the place where a row of eight begins anew. */
    private static void undoRoundAndRound() {
        Run run = Run.of(CHECK, "13: round and round", "mesh 2 1 1 3");
        int[] lots = new int[64];
        int depth = 0;
        for (int round = 0; round < 12; round++) {
            for (int i = 0; i < 3; i++) {
                lots[depth] = run.answer("told(7)");
                depth++;
                run.due("cycle(0)", 0);
            }
            depth--;
            run.due("undo()", Math.min(8, round * 2 + 3) - 1).due("told(7)", lots[depth]);
        }
        for (int left = 6; left >= 0; left--) {
            depth--;
            run.due("undo()", left).due("told(7)", lots[depth]);
        }
        run.refused("undo()", NOT);
    }

    private static void undoOfEachKind() {
        Run run = twoPairs("13: each kind").due("told(9)", 1);
        int lots = run.answer("told(7)");
        run.due("give(0, 2)", 3).due("told(9)", 2).due("join(0, 2)", 3).due("told(9)", 3).due("part(2, 3)", 3).due("told(9)", 4);
        run.due("cycle(3)", 0).due("told(9)", 5).due("frame(12)", 3).due("told(9)", 6);
        run.due("undo()", 5).due("told(9)", 5).due("undo()", 4).due("told(7)", lots);
        run.due("undo()", 3).due("station(2, 2)", 1 + 8).due("undo()", 2).due("station(2, 2)", 8).due("station(0, 2)", 2);
        run.due("undo()", 1).due("station(0, 4)", 15).dueFromZero("phase(#)", 5, 0, 5, 10, 5);
        run.due("undo()", 0).due("told(7)", 5).dueFromZero("station(#, 4)", 0, 0, 0, 0).refused("phase(0)", NOT).refused("undo()", NOT);
    }

    private static void undoRefused() {
        Run fresh = new Run(CHECK, "13: none").refused("undo()", NOT).refused("undo()", NOT);
        fresh.write("link 0 1").refused("undo()", NOT).due("mesh()", 1).refused("undo()", NOT).due("told(3)", 1);
        fresh.due("tally(0, 1, 1, 1, 1)", 1).refused("undo()", NOT).due("keep(0)", 0).refused("undo()", NOT);
        fresh.due("back(0)", 0).refused("undo()", NOT).due("cycle(0)", 0).due("undo()", 0);
        fresh.refused("undo()", NOT);
    }

    private static void refusedCallsAreNotUndone() {
        Run run = twoPairs("13: refused calls").due("give(0, 1)", 3);
        String[] refused = {"cycle(4)", "cycle(-1)", "frame(0)", "frame(13)", "give(0, 1)", "give(4, 0)", "join(0, 0)", "join(0, 1)",
            "part(1, 1)", "part(0, 2)", "keep(2)", "back(0)", "back(2)", "mesh()"};
        for (String call : refused) {
            run.answer(call);
            run.due("told(9)", 2);
        }
        run.due("undo()", 1).due("station(0, 4)", 15).due("undo()", 0).due("station(0, 4)", 0);
    }

    private static void keepRefused() {
        Run run = twoPairs("14: k 0, 1");
        for (int no : new int[] {-1, 2, 3, 32, LEAST, GREATEST}) {
            run.refused("keep(" + no + ")", UNKNOWN);
        }
        run.due("keep(0)", 4).due("give(0, 0)", 3).due("keep(1)", 3);
        for (int no : new int[] {-1, 2, 3, 32, LEAST, GREATEST}) {
            run.refused("keep(" + no + ")", UNKNOWN);
        }
        Run none = Run.of(CHECK, "14: nobody covered", "mesh 8 1 1 1").due("keep(0)", 0);
        none.write("want 0 0;want 1 0;want 2 0;want 3 0;want 4 0;want 5 0;want 6 0;want 7 0").due("mesh()", 8).due("keep(1)", 8);
        none.due("back(1)", 8);
    }

    private static void backRefused() {
        Run run = twoPairs("15: k 0, 1");
        for (int no : new int[] {-1, 2, 3, 32, LEAST, GREATEST}) {
            run.refused("back(" + no + ")", UNKNOWN);
        }
        run.refused("back(0)", NOT).refused("back(1)", NOT).due("told(9)", 1);
        run.due("keep(1)", 4).refused("back(0)", NOT).due("give(0, 0)", 3).refused("back(0)", NOT).due("back(1)", 4);
        run.refused("back(0)", NOT).due("station(0, 4)", 15);
        for (int no : new int[] {-1, 2, 3, 32, LEAST, GREATEST}) {
            run.refused("back(" + no + ")", UNKNOWN);
        }
    }

    private static void keptApart() {
        Run run = twoPairs("14, 15: two are kept apart").due("keep(0)", 4).due("give(0, 0)", 3).due("keep(1)", 3).due("give(2, 3)", 3);
        run.due("back(0)", 4).due("station(0, 4)", 15).due("back(1)", 3).due("station(0, 4)", 14).due("station(2, 4)", 15);
        run.due("give(2, 0)", 3).due("back(1)", 3).due("station(2, 4)", 15).due("back(0)", 4).due("keep(1)", 4).due("back(1)", 4);
        run.due("station(0, 4)", 15);
    }

    private static void backEndsUndoing() {
        Run run = twoPairs("15: nothing can be undone").due("keep(0)", 4).due("told(9)", 1);
        for (int i = 0; i < 4; i++) {
            run.due("give(0, " + i + ")", 3 - i).due("give(2, " + i + ")", 3 - i);
        }
        run.due("told(9)", 8).due("back(0)", 4).due("told(9)", 0).refused("undo()", NOT);
        run.due("give(0, 0)", 3).due("told(9)", 1).due("undo()", 0).due("station(0, 4)", 15).refused("undo()", NOT);
        run.write("xyz").due("tally(1, 2, 5, 6, 7)", 2).due("back(0)", 4).due("told(10)", 3).due("told(8)", 2).due("reckon(1, 0)", 50011);
    }

    private static void keptUpToAText() {
        Run run = twoPairs("15: nothing was kept since the last text").due("keep(0)", 4).due("keep(1)", 4);
        run.write("bad").refused("mesh()", NOT).due("back(0)", 4).due("erase()", 3).write("want 1 0").due("back(1)", 4);
        run.due("mesh()", 1).refused("back(0)", NOT).refused("back(1)", NOT).refused("back(2)", UNKNOWN).refused("back(-1)", UNKNOWN);
        run.due("keep(1)", 2).refused("back(0)", NOT).due("back(1)", 2);
    }
}
