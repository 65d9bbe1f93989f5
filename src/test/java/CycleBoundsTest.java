/** The bounds of lots, cycles, shares and frames (Terms, part 2): promises 8, 9, 16. */
public final class CycleBoundsTest {
    private static final Check CHECK = new Check("CycleBoundsTest");
    private static final int UNKNOWN = SlotMesh.UNKNOWN;
    private static final int OUTSIDE = SlotMesh.OUTSIDE;
    private static final int NOT = SlotMesh.NOT;
    private static final int LEAST = Integer.MIN_VALUE;
    private static final int GREATEST = Integer.MAX_VALUE;

    public static void main(String[] args) {
        lotsAheadOfAndBehindTheWrap();
        lotsAtTheirGreatest();
        lotsAtNought();
        lotsLeftOverBySixteen();
        shareAndLotAlike();
        lotsLeftOverByEight();
        contenders();
        reporting();
        settledAlone();
        settledOnlyIfConfirming();
        half();
        twice();
        twiceByDistance();
        cycleRefused();
        frameRefused();
        framesOfOneAndTwelve();
        framesOfEachMesh();
        phaseRefused();
        phasesOfAll();
        CHECK.end();
    }

    /** One station alone; it draws one lot a cycle, and another one if it asks. */
    private static Run alone(String promise, int seed, int share) {
        return Run.of(CHECK, promise + ", seed " + seed + ", share " + share, "mesh 2 1 1 " + seed + ";want 1 0;share 0 " + share);
    }

    private static void lotsAheadOfAndBehindTheWrap() {
        // 245 times 171 and 11213 is 53108, the last seed that stays below 53125; 246 gives 53279, left over is 154.
        Run below = alone("8: left over by 53125", 245, 1).due("told(7)", 245);
        below.due("cycle(0)", 0).due("told(7)", 53108).due("phase(0)", 0);
        below.due("cycle(0)", 0).due("told(7)", 53108 * 171 + 11213 - 171 * 53125).due("phase(0)", 0);
        Run beyond = alone("8: left over by 53125", 246, 2);
        beyond.due("cycle(0)", 0).due("told(7)", 154).due("phase(0)", 0);
        beyond.due("cycle(0)", 0).due("told(7)", 154 * 171 + 11213);
        alone("8: left over by 53125", 999, 2).due("cycle(0)", 0).due("told(7)", 182042 - 3 * 53125).due("phase(0)", 0);
    }

    private static void lotsAtTheirGreatest() {
        Run run = alone("8: lots of 53124", 630, 8);
        Lots lots = new Lots(630);
        int share = 8;
        for (int i = 0; i < 74; i++) {
            if (lots.of(16) < share) {
                lots.of(8);
                share = Math.max(1, share / 2);
            }
            run.due("cycle(0)", 0).due("told(7)", lots.now());
        }
        run.due("told(7)", 53124).due("phase(0)", 0).due("cycle(0)", 0).due("phase(0)", 0).due("told(7)", 11213 - 171);
    }

    private static void lotsAtNought() {
        Run run = Run.of(CHECK, "8: lots of 0", "mesh 6 1 1 481").due("cycle(0)", 0).due("told(7)", 0);
        run.due("part(0, 1)", NOT).due("undo()", 0).due("told(7)", 481).due("cycle(0)", 0).due("keep(0)", 0).due("cycle(0)", 0);
        Lots lots = new Lots(0);
        int asked = 0;
        Run shares = Run.of(CHECK, "8: lots of 0", "mesh 6 1 1 481").due("cycle(0)", 0);
        for (int station = 0; station < 6; station++) {
            asked |= lots.of(16) < shares.answer("station(" + station + ", 1)") ? 1 << station : 0;
        }
        for (int i = 0; i < Integer.bitCount(asked); i++) {
            lots.of(8);
        }
        run.due("phase(0)", asked).due("told(7)", lots.now()).due("back(0)", 0).due("told(7)", 0);
    }

    private static void lotsLeftOverBySixteen() {
        // 1009 by 64 is 15: the greatest lot; 1065 by 64 is 16: left over is 0, the least.
        alone("8: lots of 1009", 251, 15).due("cycle(0)", 0).due("told(7)", 1009).due("phase(0)", 0).due("station(0, 1)", 15);
        alone("8: lots of 1009", 251, 16).due("cycle(0)", 0).due("phase(0)", 1).due("station(0, 1)", 8);
        alone("8: lots of 1065", 562, 1).due("cycle(0)", 0).due("phase(0)", 1).due("told(7)", (1065 * 171 + 11213) % 53125);
    }

    private static void shareAndLotAlike() {
        for (int seed = 1; seed <= 999; seed += 7) {
            int lot = new Lots(seed).of(16);
            if (lot > 0) {
                alone("16: a lot like the share", seed, lot).due("cycle(0)", 0).due("phase(0)", 0);
            }
            alone("16: a lot one less than the share", seed, lot + 1).due("cycle(0)", 0).due("phase(0)", 1);
        }
    }

    /** 0 and 1 are neighbours, each with a listener; both ask, and the greater lot has it. */
    private static void lotsLeftOverByEight() {
        boolean[] seen = new boolean[4];
        for (int seed = 1; seed <= 999; seed++) {
            Lots lots = new Lots(seed);
            lots.of(16);
            lots.of(16);
            lots.of(8);
            int ofSixteen = lots.now() / 64 % 16;
            int first = lots.now() / 64 % 8;
            int second = lots.of(8);
            int kind = first == second ? 0 : first == second + 1 ? 1 : first + 1 == second ? 2 : first < second && ofSixteen > second ? 3 : -1;
            if (kind >= 0) {
                seen[kind] = true;
                Run.of(CHECK, "8: lots of 8, " + first + " and " + second + ", seed " + seed,
                    "mesh 4 1 1 " + seed + ";link 0 1;link 0 2;link 1 3;share 0 16;share 1 16;want 2 0;want 3 0")
                    .due("cycle(0)", first >= second ? 1 : 2).due("told(7)", lots.now());
            }
        }
        CHECK.due("8: like lots, one more, one less, left over by 8", seen[0] && seen[1] && seen[2] && seen[3]);
    }

    private static void contenders() {
        Run run = Run.of(CHECK, "7: contenders", "mesh 5 3 1 1;link 0 1;link 1 2;link 2 3;share 0 16;want 0 2;want 1 0;share 2 1;share 3 1");
        run.due("slot(0, 1)", 1 + 4 + 8 + 16);
        run.due("cycle(0)", 1).due("slot(0, 0)", 1);
        run.due("slot(0, 1)", 8 + 16).due("slot(1, 1)", 1 + 4 + 8 + 16);
        run.due("cycle(1)", 1).due("slot(2, 1)", 4 + 8 + 16).due("station(0, 5)", 1);
        run.due("give(0, 0)", 1).due("slot(0, 1)", 1 + 4 + 8 + 16).due("slot(1, 1)", 8 + 16).due("slot(2, 1)", 1 + 4 + 8 + 16);
    }

    /** A listener that hears one, two, three asking ones. */
    private static void reporting() {
        Run one = Run.of(CHECK, "16: hears one", "mesh 2 1 1 1;link 0 1;share 0 16;want 1 0").due("cycle(0)", 1);
        one.dueFromZero("phase(#)", 1, 0, 1, 2, 1);
        Run two = Run.of(CHECK, "16: hears two", "mesh 3 1 1 1;link 0 2;link 1 2;share 0 16;share 1 16;want 2 0").due("cycle(0)", 0);
        two.dueFromZero("phase(#)", 3, 4, 0, 0, 0);
        Run three = Run.of(CHECK, "16: hears three", "mesh 4 1 1 1;link 0 3;link 1 3;link 2 3;share 0 16;share 1 16;share 2 16;want 3 0");
        three.due("cycle(0)", 0).dueFromZero("phase(#)", 7, 8, 0, 0, 0);
        Run first = Run.of(CHECK, "16: the first hears two", "mesh 3 1 1 1;link 0 1;link 0 2;share 1 16;share 2 16;want 0 0").due("cycle(0)", 0);
        first.dueFromZero("phase(#)", 6, 1, 0, 0, 0);
        Run last = Run.of(CHECK, "16: the last of eight hears two", "mesh 8 1 1 1;link 0 7;link 6 7;share 0 16;share 6 16"
            + ";want 1 0;want 2 0;want 3 0;want 4 0;want 5 0;want 7 0").due("cycle(0)", 0);
        last.dueFromZero("phase(#)", 65, 128, 0, 0, 0);
        Run none = Run.of(CHECK, "16: nobody asks", "mesh 3 1 1 1;link 0 1;link 1 2;want 0 0;want 1 0;want 2 0").due("cycle(0)", 0);
        none.dueFromZero("phase(#)", 0, 0, 0, 0, 0).due("told(7)", 1);
    }

    private static void settledAlone() {
        Run all = Run.of(CHECK, "16: all ask", "mesh 2 1 1 1;link 0 1;share 0 16;share 1 16").due("cycle(0)", 0);
        all.dueFromZero("phase(#)", 3, 0, 3, 0, 0);
        Run most = Run.of(CHECK, "16: as many as may be",
            "mesh 8 1 1 1;link 0 1;link 2 3;link 4 5;link 6 7;share 1 16;share 3 16;share 5 16;share 7 16;want 0 0;want 2 0;want 4 0;want 6 0");
        most.due("cycle(0)", 170).dueFromZero("phase(#)", 170, 0, 170, 85, 170).due("told(6)", 1);
    }

    /** 4 hears 3, that answers, and is out of reach of 0, that has it then: but 4 did not ask. */
    private static void settledOnlyIfConfirming() {
        for (int seed = 1; seed <= 40; seed++) {
            Lots lots = new Lots(seed);
            lots.of(16);
            lots.of(16);
            int due = lots.of(8) >= lots.of(8) ? 1 : 2;
            Run run = Run.of(CHECK, "8: only those that confirm, seed " + seed,
                "mesh 5 1 1 " + seed + ";link 0 1;link 0 2;link 1 3;link 3 4;share 0 16;share 1 16;want 2 0;want 3 0;want 4 0");
            run.due("cycle(0)", due).dueFromZero("phase(#)", 3, 0, 3, 12, due).due("slot(0, 0)", due).due("station(4, 4)", 0);
        }
    }

    /** With seed 156 the first lot is 0, so that every share asks; nobody hears it. */
    private static void half() {
        int[] due = {0, 1, 1, 1, 2, 2, 3, 3, 4, 4, 5, 5, 6, 6, 7, 7, 8};
        for (int share = 1; share <= 16; share++) {
            alone("8: half, 1 at least", 156, share).due("cycle(0)", 0).due("phase(0)", 1).due("station(0, 1)", due[share]);
        }
        Run settled = Run.of(CHECK, "8: who gets it keeps its share", "mesh 2 1 1 156;link 0 1;share 0 1;want 1 0");
        settled.due("cycle(0)", 1).due("station(0, 1)", 1);
    }

    private static final String CHAIN = "mesh 6 1 1 1;link 0 1;link 1 2;link 2 3;link 3 4;share 0 16;want 1 0;want 2 0;want 3 0;want 4 0;want 5 0";

    /** 0 is settled, 3 is just out of reach. */
    private static void twice() {
        int[] due = {0, 2, 4, 6, 8, 10, 12, 14, 16, 16, 16, 16, 16, 16, 16, 16, 16};
        for (int share = 1; share <= 16; share++) {
            Run run = Run.of(CHECK, "8: twice, 16 at most, share " + share, CHAIN + ";share 3 " + share);
            run.due("cycle(0)", 1).due("station(3, 1)", due[share]);
            run.due("cycle(0)", 0).due("station(3, 1)", due[share]).due("undo()", 1).due("undo()", 0).due("station(3, 1)", share);
        }
    }

    private static void twiceByDistance() {
        Run run = Run.of(CHECK, "8: twice by distance", CHAIN).due("cycle(0)", 1);
        run.dueFromZero("station(#, 1)", 16, 8, 8, 16, 8, 8);
        Run ring = Run.of(CHECK, "8: twice in a ring", "mesh 6 1 1 1;link 0 1;link 1 2;link 2 3;link 3 4;link 4 5;link 5 0;share 0 16"
            + ";want 1 0;want 2 0;want 3 0;want 4 0;want 5 0");
        ring.due("cycle(0)", 1).dueFromZero("station(#, 1)", 16, 8, 8, 16, 8, 8);
    }

    private static void cycleRefused() {
        for (int m = 1; m <= 4; m++) {
            Run run = Run.of(CHECK, "8: slots, m " + m, "mesh 2 " + m + " 2 1;link 0 1;share 0 16;want 0 4;want 1 0");
            for (int no : new int[] {-1, m, 4, 32, 32 + m - 1, LEAST, GREATEST}) {
                run.refused("cycle(" + no + ")", UNKNOWN);
            }
            run.due("cycle(" + (m - 1) + ")", 1).due("slot(" + (m - 1) + ", 0)", 1);
            run.refused("cycle(" + m + ")", UNKNOWN).refused("cycle(-1)", UNKNOWN);
            run.due("cycle(0)", m == 1 ? 0 : 1).due("slot(0, 0)", 1).due("told(9)", 2);
        }
    }

    private static void frameRefused() {
        Run run = Run.of(CHECK, "9: frames 1 .. 12", "mesh 3 2 2 9;link 0 1;link 1 2");
        for (int no : new int[] {0, -1, 13, 14, LEAST, GREATEST}) {
            run.refused("frame(" + no + ")", OUTSIDE);
        }
        run.refused("phase(0)", NOT).answer("frame(12)");
        for (int no : new int[] {0, -1, 13, LEAST, GREATEST}) {
            run.refused("frame(" + no + ")", OUTSIDE);
        }
        run.due("told(9)", 1).due("undo()", 0).due("told(7)", 9);
    }

    private static void framesOfOneAndTwelve() {
        String text = "mesh 3 2 2 9;link 0 1;link 1 2;want 0 2";
        for (int n = 1; n <= 12; n++) {
            Run at = Run.of(CHECK, "9: frame(" + n + ") at once", text);
            Run one = Run.of(CHECK, "9: frame(" + n + ") one by one", text);
            int covered = 0;
            for (int i = 0; i < n; i++) {
                covered = one.answer("frame(1)");
            }
            at.due("frame(" + n + ")", covered).due("told(7)", one.answer("told(7)")).due("told(5)", one.answer("told(5)"));
            for (int station = 0; station < 3; station++) {
                at.due("station(" + station + ", 1)", one.answer("station(" + station + ", 1)"));
                at.due("station(" + station + ", 4)", one.answer("station(" + station + ", 4)"));
            }
            at.due("told(9)", 1).due("undo()", 0).due("told(7)", 9);
        }
    }

    /** A frame is c cycles of slot 0, then c of slot 1, and so on. */
    private static void framesOfEachMesh() {
        for (int m : new int[] {1, 4}) {
            for (int c : new int[] {1, 5}) {
                String text = "mesh 4 " + m + " " + c + " 33;link 0 1;link 1 2;link 2 3;want 0 4;want 3 4";
                Run frame = Run.of(CHECK, "9: a frame, m " + m + ", c " + c, text);
                Run cycles = Run.of(CHECK, "9: its cycles", text);
                for (int i = 0; i < m * c; i++) {
                    cycles.answer("cycle(" + i / c + ")");
                }
                frame.due("frame(1)", Integer.bitCount(cycles.answer("told(5)"))).due("told(7)", cycles.answer("told(7)"));
                for (int i = 0; i < 5; i++) {
                    frame.due("phase(" + i + ")", cycles.answer("phase(" + i + ")"));
                }
                for (int station = 0; station < 4; station++) {
                    frame.due("station(" + station + ", 1)", cycles.answer("station(" + station + ", 1)"));
                    frame.due("station(" + station + ", 4)", cycles.answer("station(" + station + ", 4)"));
                }
            }
        }
    }

    private static void phaseRefused() {
        Run run = Run.of(CHECK, "16: phases 0 to 4", "mesh 2 1 1 1;link 0 1;share 0 16;want 1 0");
        int[] no = {-1, 5, 6, LEAST, GREATEST};
        for (int phase : no) {
            run.refused("phase(" + phase + ")", OUTSIDE);
        }
        run.refused("phase(0)", NOT).refused("phase(4)", NOT);
        run.due("cycle(0)", 1).dueFromZero("phase(#)", 1, 0, 1, 2, 1);
        for (int phase : no) {
            run.refused("phase(" + phase + ")", OUTSIDE);
        }
        run.asked("phase(0)", 1).asked("phase(4)", 1);
        run.due("undo()", 0).refused("phase(0)", NOT).refused("phase(4)", NOT).refused("phase(5)", OUTSIDE);
        run.due("frame(1)", 2).due("phase(3)", 2).write("want 1 0").due("phase(3)", 2).due("mesh()", 1);
        run.refused("phase(3)", NOT).refused("phase(-1)", OUTSIDE);
    }

    /** What the last cycle brought stays through calls that are no cycles. */
    private static void phasesOfAll() {
        Run run = Run.of(CHECK, "16: the last cycle", "mesh 3 1 1 1;link 0 1;share 0 16;want 1 0;want 2 0").due("cycle(0)", 1);
        run.due("give(0, 0)", 0).due("part(0, 1)", 0).due("join(1, 2)", 0).due("after()", SlotMesh.NONE).due("spoils(0, 1)", 0);
        run.due("fewest()", 1).due("keep(0)", 2).dueFromZero("phase(#)", 1, 0, 1, 2, 1);
        run.due("cycle(0)", 0).dueFromZero("phase(#)", 1, 0, 1, 0, 0).due("back(0)", 2).dueFromZero("phase(#)", 1, 0, 1, 2, 1);
    }
}
