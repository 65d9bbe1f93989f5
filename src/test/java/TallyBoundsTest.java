/** The bounds of tallies (Terms, part 4): 0 to 8 numbers of -999 .. 999, missing, empty, full; promises 21 to 26. */
public final class TallyBoundsTest {
    private static final Check CHECK = new Check("TallyBoundsTest");
    private static final int UNKNOWN = SlotMesh.UNKNOWN;
    private static final int OUTSIDE = SlotMesh.OUTSIDE;
    private static final int NULL = SlotMesh.NULL;
    private static final int EMPTY = SlotMesh.EMPTY;
    private static final int ROOM = SlotMesh.ROOM;
    private static final int LEAST = Integer.MIN_VALUE;
    private static final int GREATEST = Integer.MAX_VALUE;
    private static final int[] NO_TALLY = {-1, 3, 4, 32, LEAST, GREATEST};
    private static final int[] NO_NUMBER = {-1000, 1000, -1001, 1001, LEAST, GREATEST};

    public static void main(String[] args) {
        tallyOfEachSize();
        tallyOfEachNumber();
        tallyRefused();
        tallyOverAnother();
        appendUpToEight();
        appendItself();
        appendEmpty();
        appendRefused();
        reckonAtItsGreatest();
        reckonOfOneAndNone();
        reckonRefused();
        popDownToNone();
        popRefused();
        eachHeld();
        eachOfNoneAndEight();
        eachRefused();
        dropOfEachSize();
        dropRefused();
        CHECK.end();
    }

    private static Run fresh(String promise) {
        return new Run(CHECK, promise);
    }

    /** The numbers of a tally are these; they are gone then. */
    private static Run numbers(Run run, int tally, int... due) {
        for (int i = due.length - 1; i >= 0; i--) {
            run.due("pop(" + tally + ")", 50000 + due[i]);
        }
        return run.refused("pop(" + tally + ")", EMPTY);
    }

    /** A tally that has so many numbers, 1 to 8: 1, 2, 3 and so on. */
    private static Run counted(Run run, int tally, int size) {
        run.due("tally(" + tally + ", 0, 0, 0, 0)", 0);
        for (int i = 1; i <= size; i++) {
            run.due("tally(2, 1, " + i + ", 0, 0)", 1).due("append(" + tally + ", 2)", i);
        }
        run.answer("drop(2)");
        return run;
    }

    private static void tallyOfEachSize() {
        for (int tally = 0; tally < 3; tally++) {
            Run run = fresh("21: tally " + tally);
            numbers(run.due("tally(" + tally + ", 0, 7, 8, 9)", 0), tally);
            numbers(run.due("tally(" + tally + ", 1, 7, 8, 9)", 1), tally, 7);
            numbers(run.due("tally(" + tally + ", 2, 7, 8, 9)", 2), tally, 7, 8);
            numbers(run.due("tally(" + tally + ", 3, 7, 8, 9)", 3), tally, 7, 8, 9);
            run.due("told(8)", 0);
        }
    }

    private static void tallyOfEachNumber() {
        Run run = fresh("21: numbers -999 .. 999");
        numbers(run.due("tally(0, 3, -999, 999, 0)", 3), 0, -999, 999, 0);
        numbers(run.due("tally(0, 3, 999, -999, -999)", 3), 0, 999, -999, -999);
        numbers(run.due("tally(0, 3, 998, -998, 999)", 3), 0, 998, -998, 999);
        run.due("tally(0, 0, -999, 999, -999)", 0).due("tally(0, 1, 1, 999, -999)", 1).due("tally(0, 2, 1, 1, 999)", 2);
    }

    private static void tallyRefused() {
        Run run = fresh("21: refused").due("tally(1, 2, 4, 5, 6)", 2);
        for (int no : NO_TALLY) {
            run.refused("tally(" + no + ", 0, 0, 0, 0)", UNKNOWN).refused("tally(" + no + ", 3, 999, 999, 999)", UNKNOWN);
            run.refused("tally(" + no + ", 4, 0, 0, 0)", UNKNOWN).refused("tally(" + no + ", -1, 1000, 1000, 1000)", UNKNOWN);
        }
        for (int tally = 0; tally < 2; tally++) {
            for (int what : new int[] {-1, 4, 5, LEAST, GREATEST}) {
                run.refused("tally(" + tally + ", " + what + ", 0, 0, 0)", OUTSIDE);
            }
            for (int what = 0; what <= 3; what++) {
                for (int no : NO_NUMBER) {
                    run.refused("tally(" + tally + ", " + what + ", " + no + ", 0, 0)", OUTSIDE);
                    run.refused("tally(" + tally + ", " + what + ", 0, " + no + ", 0)", OUTSIDE);
                    run.refused("tally(" + tally + ", " + what + ", 0, 0, " + no + ")", OUTSIDE);
                }
            }
        }
        run.refused("pop(0)", NULL);
        numbers(run, 1, 4, 5);
    }

    private static void tallyOverAnother() {
        Run run = counted(fresh("21: a new one over a full one"), 0, 8).due("told(8)", 8).due("tally(0, 1, 9, 0, 0)", 1).due("told(8)", 1);
        numbers(run, 0, 9);
        counted(run, 0, 8).due("tally(0, 0, 9, 9, 9)", 0);
        numbers(run, 0);
    }

    private static void appendUpToEight() {
        for (int one = 0; one <= 8; one++) {
            for (int other = 0; other <= 8; other++) {
                Run run = counted(counted(fresh("22: " + one + " and " + other), 0, one), 1, other);
                if (one + other > 8) {
                    run.refused("append(0, 1)", ROOM);
                } else {
                    int[] due = new int[one + other];
                    for (int i = 0; i < due.length; i++) {
                        due[i] = i < one ? i + 1 : i - one + 1;
                    }
                    run.due("append(0, 1)", one + other).due("told(8)", one + 2 * other);
                    numbers(run, 0, due);
                    run.due("drop(1)", other);
                }
            }
        }
    }

    private static void appendItself() {
        for (int size = 0; size <= 8; size++) {
            Run run = counted(fresh("22: itself of " + size), 1, size);
            if (size > 4) {
                run.refused("append(1, 1)", ROOM).due("drop(1)", size);
            } else {
                int[] due = new int[2 * size];
                for (int i = 0; i < due.length; i++) {
                    due[i] = i % size + 1;
                }
                run.due("append(1, 1)", 2 * size);
                numbers(run, 1, due);
            }
        }
    }

    private static void appendEmpty() {
        Run run = counted(fresh("22: empty"), 0, 8).due("tally(1, 0, 0, 0, 0)", 0);
        run.asked("append(0, 1)", 8).asked("append(1, 1)", 0).due("append(1, 0)", 8).refused("append(1, 0)", ROOM).refused("append(0, 1)", ROOM);
        run.due("tally(2, 1, 5, 0, 0)", 1).refused("append(0, 2)", ROOM).refused("append(2, 0)", ROOM).due("pop(0)", 50008);
        run.due("append(0, 2)", 8).due("reckon(0, 0)", 50033);
    }

    private static void appendRefused() {
        Run run = fresh("22: refused");
        for (int no : NO_TALLY) {
            run.refused("append(" + no + ", 0)", UNKNOWN).refused("append(0, " + no + ")", UNKNOWN).refused("append(" + no + ", " + no + ")", UNKNOWN);
        }
        run.refused("append(0, 0)", NULL).refused("append(0, 1)", NULL).refused("append(2, 1)", NULL);
        counted(run, 0, 8);
        run.refused("append(0, 1)", NULL).refused("append(1, 0)", NULL).refused("append(0, 0)", ROOM);
        run.refused("append(0, 3)", UNKNOWN).refused("append(3, 0)", UNKNOWN).refused("append(-1, 0)", UNKNOWN);
        run.due("tally(1, 0, 0, 0, 0)", 0).refused("append(1, 2)", NULL).refused("append(2, 1)", NULL);
    }

    private static void reckonAtItsGreatest() {
        Run all = fresh("23: eight of 999").due("tally(0, 2, 999, 999, 0)", 2).due("append(0, 0)", 4).due("append(0, 0)", 8);
        all.asked("reckon(0, 0)", 57992).asked("reckon(0, 1)", 50999).asked("reckon(0, 2)", 50999).asked("reckon(0, 3)", 50000 - 4 * 999);
        all.due("each(0, 0)", 8).asked("reckon(0, 0)", 42008).asked("reckon(0, 1)", 49001).asked("reckon(0, 2)", 49001);
        all.asked("reckon(0, 3)", 50000 + 4 * 999);
        Run turns = fresh("23: 999 and -999 by turns").due("tally(0, 2, 999, -999, 0)", 2).due("append(0, 0)", 4).due("append(0, 0)", 8);
        turns.asked("reckon(0, 0)", 50000).asked("reckon(0, 1)", 50999).asked("reckon(0, 2)", 49001).asked("reckon(0, 3)", 50000 + 36 * 999);
        turns.due("each(0, 0)", 8).asked("reckon(0, 3)", 50000 - 36 * 999);
    }

    private static void reckonOfOneAndNone() {
        for (int number : new int[] {-999, -1, 0, 1, 999}) {
            Run run = fresh("23: of one").due("tally(2, 1, " + number + ", 0, 0)", 1);
            for (int what = 0; what <= 3; what++) {
                run.asked("reckon(2, " + what + ")", 50000 + number);
            }
        }
        int[][] places = {{1, 2, 3}, {1, 3, 2}, {2, 1, 3}, {2, 3, 1}, {3, 1, 2}, {3, 2, 1}};
        for (int[] p : places) {
            Run run = fresh("23: in each place").due("tally(1, 3, " + p[0] + ", " + p[1] + ", " + p[2] + ")", 3);
            run.due("reckon(1, 1)", 50003).due("reckon(1, 2)", 50001).due("each(1, 0)", 3).due("reckon(1, 1)", 49999).due("reckon(1, 2)", 49997);
        }
        Run none = fresh("23: of none").due("tally(2, 0, 5, 6, 7)", 0);
        none.asked("reckon(2, 0)", 50000).refused("reckon(2, 1)", EMPTY).refused("reckon(2, 2)", EMPTY).asked("reckon(2, 3)", 50000);
        Run gone = fresh("23: of none any more").due("tally(2, 1, 5, 6, 7)", 1).due("pop(2)", 50005);
        gone.asked("reckon(2, 0)", 50000).refused("reckon(2, 1)", EMPTY).refused("reckon(2, 2)", EMPTY).asked("reckon(2, 3)", 50000);
        for (int size = 1; size <= 8; size++) {
            Run run = counted(fresh("23: of " + size), 0, size);
            int swing = 0;
            for (int i = 1; i <= size; i++) {
                swing += i % 2 == 1 ? i * i : -i * i;
            }
            run.due("reckon(0, 0)", 50000 + size * (size + 1) / 2).due("reckon(0, 1)", 50000 + size).due("reckon(0, 2)", 50001);
            run.due("reckon(0, 3)", 50000 + swing);
        }
    }

    private static void reckonRefused() {
        Run run = fresh("23: refused").due("tally(1, 0, 0, 0, 0)", 0).due("tally(2, 1, 3, 0, 0)", 1);
        for (int no : NO_TALLY) {
            run.refused("reckon(" + no + ", 0)", UNKNOWN).refused("reckon(" + no + ", 4)", UNKNOWN).refused("reckon(" + no + ", -1)", UNKNOWN);
        }
        for (int tally = 0; tally < 3; tally++) {
            for (int what : new int[] {-1, 4, 5, LEAST, GREATEST}) {
                run.refused("reckon(" + tally + ", " + what + ")", OUTSIDE);
            }
        }
        for (int what = 0; what <= 3; what++) {
            run.refused("reckon(0, " + what + ")", NULL);
        }
    }

    private static void popDownToNone() {
        for (int size = 0; size <= 8; size++) {
            Run run = counted(fresh("24: of " + size), 0, size);
            for (int last = size; last >= 1; last--) {
                run.due("pop(0)", 50000 + last).due("told(8)", last - 1);
            }
            run.refused("pop(0)", EMPTY).refused("pop(0)", EMPTY).due("tally(1, 1, 4, 0, 0)", 1).due("append(0, 1)", 1).due("pop(0)", 50004);
        }
        Run bounds = fresh("24: the least and the greatest").due("tally(0, 2, 999, -999, 0)", 2);
        bounds.due("pop(0)", 49001).due("pop(0)", 50999).refused("pop(0)", EMPTY).due("drop(0)", 0).refused("pop(0)", NULL);
    }

    private static void popRefused() {
        Run run = fresh("24: refused").due("tally(1, 1, 6, 0, 0)", 1);
        for (int no : NO_TALLY) {
            run.refused("pop(" + no + ")", UNKNOWN);
        }
        run.refused("pop(0)", NULL).refused("pop(2)", NULL).due("pop(1)", 50006).refused("pop(1)", EMPTY).refused("pop(0)", NULL);
    }

    private static void eachHeld() {
        Run run = fresh("25: 999 at most, -999 at least");
        numbers(run.due("tally(0, 3, 499, 500, 999)", 3).due("each(0, 1)", 3), 0, 998, 999, 999);
        numbers(run.due("tally(0, 3, -499, -500, -999)", 3).due("each(0, 1)", 3), 0, -998, -999, -999);
        numbers(run.due("tally(0, 3, 0, 1, -1)", 3).due("each(0, 1)", 3), 0, 0, 2, -2);
        numbers(run.due("tally(0, 3, 999, -999, 0)", 3).due("each(0, 0)", 3), 0, -999, 999, 0);
        numbers(run.due("tally(0, 3, 998, 1, 1)", 3).due("each(0, 2)", 3), 0, 998, 999, 999);
        numbers(run.due("tally(0, 3, -998, -1, -1)", 3).due("each(0, 2)", 3), 0, -998, -999, -999);
        numbers(run.due("tally(0, 3, 998, 2, -1)", 3).due("each(0, 2)", 3), 0, 998, 999, 999);
        numbers(run.due("tally(0, 3, 998, 2, -2)", 3).due("each(0, 2)", 3), 0, 998, 999, 998);
        numbers(run.due("tally(0, 3, 999, 999, -999)", 3).due("each(0, 2)", 3), 0, 999, 999, 999);
        numbers(run.due("tally(0, 3, -999, -999, 999)", 3).due("each(0, 2)", 3), 0, -999, -999, -999);
        numbers(run.due("tally(0, 3, 999, -999, -999)", 3).due("each(0, 2)", 3), 0, 999, 0, -999);
    }

    private static void eachOfNoneAndEight() {
        Run none = fresh("25: of none").due("tally(1, 0, 5, 6, 7)", 0);
        none.asked("each(1, 0)", 0).asked("each(1, 1)", 0).asked("each(1, 2)", 0);
        Run one = fresh("25: of one").due("tally(1, 1, 5, 6, 7)", 1).due("each(1, 2)", 1).due("each(1, 0)", 1).due("each(1, 1)", 1);
        numbers(one, 1, -10);
        numbers(counted(fresh("25: less, of eight"), 0, 8).due("each(0, 0)", 8), 0, -1, -2, -3, -4, -5, -6, -7, -8);
        numbers(counted(fresh("25: twice, of eight"), 0, 8).due("each(0, 1)", 8), 0, 2, 4, 6, 8, 10, 12, 14, 16);
        numbers(counted(fresh("25: sums, of eight"), 0, 8).due("each(0, 2)", 8), 0, 1, 3, 6, 10, 15, 21, 28, 36);
        Run most = fresh("25: sums of eight of 999").due("tally(0, 2, 999, 999, 0)", 2).due("append(0, 0)", 4).due("append(0, 0)", 8);
        numbers(most.due("each(0, 2)", 8), 0, 999, 999, 999, 999, 999, 999, 999, 999);
    }

    private static void eachRefused() {
        Run run = fresh("25: refused").due("tally(1, 3, 500, -999, 7)", 3).due("tally(2, 0, 0, 0, 0)", 0);
        for (int no : NO_TALLY) {
            run.refused("each(" + no + ", 0)", UNKNOWN).refused("each(" + no + ", 3)", UNKNOWN).refused("each(" + no + ", -1)", UNKNOWN);
        }
        for (int tally = 0; tally < 3; tally++) {
            for (int what : new int[] {-1, 3, 4, LEAST, GREATEST}) {
                run.refused("each(" + tally + ", " + what + ")", OUTSIDE);
            }
        }
        for (int what = 0; what <= 2; what++) {
            run.refused("each(0, " + what + ")", NULL);
        }
        numbers(run, 1, 500, -999, 7);
    }

    private static void dropOfEachSize() {
        for (int size = 0; size <= 8; size++) {
            Run run = counted(fresh("26: of " + size), 1, size).due("drop(1)", size).due("told(8)", 0);
            run.refused("drop(1)", NULL).refused("pop(1)", NULL).refused("reckon(1, 0)", NULL).refused("each(1, 0)", NULL).refused("append(1, 1)", NULL);
            run.due("tally(1, 0, 0, 0, 0)", 0).due("drop(1)", 0).refused("drop(1)", NULL);
        }
    }

    private static void dropRefused() {
        Run run = fresh("26: refused").due("tally(2, 3, 1, 2, 3)", 3);
        for (int no : NO_TALLY) {
            run.refused("drop(" + no + ")", UNKNOWN);
        }
        run.refused("drop(0)", NULL).refused("drop(1)", NULL).due("drop(2)", 3).refused("drop(2)", NULL);
    }
}
