/** The bounds of what a mesh is (Terms, part 1), and of what is asked of it: promises 1, 6, 7, 27. */
public final class MeshBoundsTest {
    private static final Check CHECK = new Check("MeshBoundsTest");
    private static final int UNKNOWN = SlotMesh.UNKNOWN;
    private static final int OUTSIDE = SlotMesh.OUTSIDE;
    private static final int LEAST = Integer.MIN_VALUE;
    private static final int GREATEST = Integer.MAX_VALUE;

    public static void main(String[] args) {
        atFirst();
        asManyStations();
        asManySlots();
        asManyWanted();
        moreWantedThanThereIs();
        shares();
        cyclesInAFrame();
        seeds();
        linksFromNoneToAll();
        nearUpToTwoLinks();
        stationAsked();
        slotAsked();
        toldAsked();
        toldFullAndEmpty();
        CHECK.end();
    }

    private static void atFirst() {
        Run run = new Run(CHECK, "1: at first");
        run.dueFromZero("told(#)", 3, 2, 2, 0, 0, 0, 0, 1, 0, 0, 0);
        run.dueFromZero("station(2, #)", 1, 8, 0, 0, 0, 0);
        run.refused("station(3, 0)", UNKNOWN);
        run.dueFromZero("slot(1, #)", 0, 7, 0);
        run.refused("slot(2, 0)", UNKNOWN);
        for (int phase = 0; phase < 5; phase++) {
            run.refused("phase(" + phase + ")", SlotMesh.NOT);
        }
        run.refused("undo()", SlotMesh.NOT);
        run.refused("back(0)", SlotMesh.NOT).refused("back(1)", SlotMesh.NOT);
        run.refused("mesh()", SlotMesh.NOT).asked("fault()", 0);
        run.dueFromZero("drop(#)", SlotMesh.NULL, SlotMesh.NULL, SlotMesh.NULL);
    }

    private static void asManyStations() {
        for (int n = 2; n <= 8; n++) {
            Run run = Run.of(CHECK, "6: stations 0 .. n less 1, n " + n, "mesh " + n + " 1 1 1");
            run.due("told(0)", n).due("slot(0, 1)", (1 << n) - 1);
            run.due("station(0, 0)", 1).due("station(" + (n - 1) + ", 0)", 1);
            for (int no : new int[] {-1, n, n + 1, 32, 32 + n - 1, LEAST, GREATEST}) {
                run.refused("station(" + no + ", 0)", UNKNOWN);
            }
        }
    }

    private static void asManySlots() {
        for (int m = 1; m <= 4; m++) {
            Run run = Run.of(CHECK, "7: slots 0 .. m less 1, m " + m, "mesh 2 " + m + " 1 1");
            run.due("told(1)", m).due("slot(0, 1)", 3).due("slot(" + (m - 1) + ", 1)", 3);
            for (int no : new int[] {-1, m, m + 1, 32, 32 + m - 1, LEAST, GREATEST}) {
                run.refused("slot(" + no + ", 1)", UNKNOWN);
            }
        }
    }

    /** 0 always asks and is always heard, so it has one slot more by each cycle, up to what it wants. */
    private static void asManyWanted() {
        for (int wants = 0; wants <= 4; wants++) {
            Run run = Run.of(CHECK, "6: wants " + wants, "mesh 2 4 1 1;link 0 1;share 0 16;want 1 0;want 0 " + wants);
            run.due("station(0, 0)", wants);
            for (int slot = 0; slot < 4; slot++) {
                boolean lacks = slot < wants;
                run.due("station(0, 5)", lacks ? 0 : 1).due("told(6)", lacks ? 0 : 1).due("told(5)", lacks ? 2 : 3);
                run.due("slot(" + slot + ", 1)", lacks ? 1 : 0);
                run.due("cycle(" + slot + ")", lacks ? 1 : 0).due("slot(" + slot + ", 1)", 0);
            }
            run.due("station(0, 4)", (1 << wants) - 1).due("station(0, 5)", 1);
        }
    }

    private static void moreWantedThanThereIs() {
        Run run = Run.of(CHECK, "6: one slot too few", "mesh 2 3 5 1;link 0 1;share 0 16;want 1 0;want 0 4");
        run.due("frame(12)", 1).due("station(0, 4)", 7).due("station(0, 5)", 0).due("told(6)", 0).due("after()", SlotMesh.NONE);
        run.dueFromZero("slot(#, 1)", 0, 0, 0);
    }

    private static void shares() {
        for (int share = 1; share <= 16; share++) {
            Run.of(CHECK, "6: share " + share, "share 2 " + share).due("station(2, 1)", share).due("station(1, 1)", 8);
        }
    }

    /** Alone and unheard, 0 draws a lot a cycle, and one more if it asks: the lots tell how many cycles there were. */
    private static void cyclesInAFrame() {
        for (int m = 1; m <= 4; m++) {
            for (int c = 1; c <= 5; c++) {
                Run run = Run.of(CHECK, "9: c " + c + ", m " + m, "mesh 2 " + m + " " + c + " 7;want 1 0");
                Lots lots = new Lots(7);
                int share = 8;
                for (int i = 0; i < m * c; i++) {
                    if (lots.of(16) < share) {
                        lots.of(8);
                        share = Math.max(1, share / 2);
                    }
                }
                run.due("told(2)", c).due("frame(1)", 1).due("told(7)", lots.now()).due("station(0, 1)", share);
            }
        }
    }

    private static void seeds() {
        for (int seed : new int[] {1, 2, 998, 999}) {
            Run.of(CHECK, "27: seed", "mesh 2 1 1 " + seed).due("told(7)", seed);
        }
    }

    private static void linksFromNoneToAll() {
        Run run = Run.of(CHECK, "27: links", "mesh 8 1 1 1");
        int links = 0;
        for (int one = 0; one < 8; one++) {
            for (int other = one + 1; other < 8; other++) {
                run.due("told(3)", links).due("join(" + other + ", " + one + ")", 0);
                links++;
            }
            run.due("station(" + one + ", 2)", 255 & ~(1 << one)).due("station(" + one + ", 3)", 255 & ~(1 << one));
        }
        run.due("told(3)", 28).due("hops(0, 7)", 1).due("fewest()", 8);
    }

    private static void nearUpToTwoLinks() {
        Run run = Run.of(CHECK, "6: near", "mesh 5 1 1 1;link 0 1;link 1 2;link 2 3");
        run.due("station(0, 3)", 2 + 4).due("station(1, 3)", 1 + 4 + 8).due("station(4, 3)", 0);
        run.due("join(3, 0)", 0).due("station(0, 3)", 2 + 4 + 8).due("station(2, 3)", 1 + 2 + 8);
        run.due("part(0, 1)", 0).due("station(0, 3)", 4 + 8).due("station(1, 3)", 4 + 8);
        run.due("part(0, 3)", 0).due("station(0, 3)", 0).due("station(0, 2)", 0);
        Run pair = Run.of(CHECK, "6: not near to itself", "mesh 2 1 1 1;link 0 1");
        pair.due("station(0, 3)", 2).due("station(1, 3)", 1);
    }

    private static void stationAsked() {
        Run run = Run.of(CHECK, "6: station()", "mesh 3 2 1 1;link 0 1;share 0 16;want 1 0").due("frame(1)", 2);
        int[] due = {1, 16, 2, 2, 1, 1};
        for (int what = 0; what <= 5; what++) {
            run.asked("station(0, " + what + ")", due[what]);
        }
        for (int what : new int[] {-1, 6, 7, LEAST, GREATEST}) {
            run.refused("station(2, " + what + ")", OUTSIDE);
            run.refused("station(3, " + what + ")", UNKNOWN).refused("station(-1, " + what + ")", UNKNOWN);
        }
    }

    private static void slotAsked() {
        Run run = Run.of(CHECK, "7: slot()", "mesh 4 2 1 1;link 0 1;link 2 3;share 0 16;share 2 16;want 1 0;want 3 0");
        run.due("cycle(1)", 5).due("join(0, 2)", 1);
        int[] due = {5, 0, 1};
        for (int what = 0; what <= 2; what++) {
            run.asked("slot(1, " + what + ")", due[what]);
        }
        run.due("slot(0, 2)", 0);
        for (int what : new int[] {-1, 3, 4, LEAST, GREATEST}) {
            run.refused("slot(1, " + what + ")", OUTSIDE);
            run.refused("slot(2, " + what + ")", UNKNOWN).refused("slot(-1, " + what + ")", UNKNOWN);
        }
    }

    private static void toldAsked() {
        Run run = Run.of(CHECK, "27: told()", "mesh 4 2 5 8;link 0 1;link 2 3;share 0 16;share 2 16;want 1 0;want 3 0");
        run.due("cycle(0)", 5).due("join(0, 2)", 1).due("tally(0, 3, 1, 2, 3)", 3).write("xy");
        int[] due = {4, 2, 5, 3, 1, 15, 1, run.answer("told(7)"), 3, 2, 2};
        for (int what = 0; what <= 10; what++) {
            run.asked("told(" + what + ")", due[what]);
        }
        for (int what : new int[] {-1, 11, 12, LEAST, GREATEST}) {
            run.refused("told(" + what + ")", OUTSIDE);
        }
    }

    private static void toldFullAndEmpty() {
        Run run = new Run(CHECK, "27: full");
        run.due("tally(0, 2, 1, 2, 0)", 2).due("append(0, 0)", 4).due("append(0, 0)", 8).due("told(8)", 8);
        run.due("tally(1, 0, 0, 0, 0)", 0).due("append(1, 0)", 8).due("told(8)", 16);
        run.due("tally(2, 0, 0, 0, 0)", 0).due("told(8)", 16).due("append(2, 0)", 8).due("told(8)", 24);
        run.due("drop(0)", 8).due("told(8)", 16);
        for (int i = 1; i <= 10; i++) {
            run.due("cycle(0)", 0).due("told(9)", Math.min(8, i));
        }
        run.write("a".repeat(199)).due("told(10)", 199).write("a").due("told(10)", 200).write("a").due("told(10)", 200);
        run.due("erase()", 200).due("told(10)", 0);
        Run none = Run.of(CHECK, "27: all done and nothing done", "mesh 8 1 1 1");
        none.due("told(5)", 0).due("told(6)", 0);
        String wants = "";
        for (int station = 0; station < 7; station++) {
            wants += "want " + station + " 0;";
        }
        none.write(wants + "want 7 1").due("mesh()", 8).due("told(5)", 127).due("told(6)", 0);
        none.write("want 7 0").due("mesh()", 1).due("told(5)", 255).due("told(6)", 1);
    }
}
