/** The bounds of what is foretold (Terms, part 3): promises 17 to 20. */
public final class ForetoldBoundsTest {
    private static final Check CHECK = new Check("ForetoldBoundsTest");
    private static final int NONE = SlotMesh.NONE;
    private static final int UNKNOWN = SlotMesh.UNKNOWN;
    private static final int NOT = SlotMesh.NOT;
    private static final int[] NO_STATION = {-1, 4, 5, 32, 33, Integer.MIN_VALUE, Integer.MAX_VALUE};

    public static void main(String[] args) {
        afterNoneAtAll();
        afterOneToTwelve();
        afterThirteen();
        afterNever();
        spoilsRefused();
        spoilsFromNoneToAll();
        fewestFromNoneToEight();
        hopsFromOneToSeven();
        hopsRefused();
        CHECK.end();
    }

    private static void afterNoneAtAll() {
        Run.of(CHECK, "17: all is done", "mesh 2 1 1 1;want 0 0;want 1 0").asked("after()", 0).due("told(6)", 1);
        Run run = Run.of(CHECK, "17: all is done but for one", "mesh 2 1 1 1;link 0 1;share 0 16;want 1 0").asked("after()", 1);
        run.due("frame(1)", 2).asked("after()", 0).due("give(0, 0)", 0).asked("after()", 1);
    }

    /** 0 asks by a share of 1 and is heard whenever it asks: it has its slot in the frame in which its lot is 0. */
    private static Run patient(int seed) {
        return Run.of(CHECK, "17: seed " + seed, "mesh 2 1 1 " + seed + ";link 0 1;share 0 1;want 1 0");
    }

    private static int framesByLots(int seed) {
        Lots lots = new Lots(seed);
        int frames = 1;
        while (lots.of(16) != 0) {
            frames++;
        }
        return frames;
    }

    private static void afterOneToTwelve() {
        int[] seeds = {0, 156, 15, 4, 26, 68, 19, 53, 8, 17, 22, 9, 6};
        for (int frames = 1; frames <= 12; frames++) {
            CHECK.due("17: by the lots, seed " + seeds[frames], framesByLots(seeds[frames]), frames);
            Run run = patient(seeds[frames]).asked("after()", frames);
            for (int left = frames - 1; left >= 0; left--) {
                run.due("told(6)", 0).due("frame(1)", left == 0 ? 2 : 1).due("after()", left);
            }
            run.due("told(6)", 1);
        }
    }

    private static void afterThirteen() {
        CHECK.due("17: by the lots, seed 10", framesByLots(10), 13);
        Run run = patient(10).asked("after()", NONE).due("frame(1)", 1).asked("after()", 12).due("frame(1)", 1).asked("after()", 11);
        run.due("undo()", 1).due("after()", 12).due("undo()", 0).due("after()", NONE).due("frame(12)", 1).due("after()", 1);
        CHECK.due("17: by the lots, seed 83", framesByLots(83), 14);
        patient(83).asked("after()", NONE).due("frame(1)", 1).asked("after()", NONE).due("frame(1)", 1).asked("after()", 12);
    }

    private static void afterNever() {
        new Run(CHECK, "17: nobody hears").asked("after()", NONE);
        Run.of(CHECK, "17: one slot too few", "mesh 2 1 5 1;link 0 1;share 0 16;want 0 2;want 1 0").asked("after()", NONE);
        Run.of(CHECK, "17: just slots enough", "mesh 2 2 1 1;link 0 1;share 0 16;want 0 2;want 1 0").asked("after()", 1);
    }

    private static Run twoPairs(String promise) {
        return Run.of(CHECK, promise, "mesh 4 4 1 5;link 0 1;link 2 3;share 0 16;share 2 16;want 0 4;want 2 4;want 1 0;want 3 0").due("frame(1)", 4);
    }

    private static void spoilsRefused() {
        Run run = twoPairs("18: refused");
        for (int no : NO_STATION) {
            run.refused("spoils(" + no + ", 1)", UNKNOWN).refused("spoils(1, " + no + ")", UNKNOWN);
            run.refused("spoils(" + no + ", " + no + ")", UNKNOWN);
        }
        for (int station = 0; station < 4; station++) {
            run.refused("spoils(" + station + ", " + station + ")", UNKNOWN);
        }
        run.refused("spoils(0, 1)", NOT).refused("spoils(1, 0)", NOT).refused("spoils(3, 2)", NOT);
        run.due("join(0, 2)", 4).refused("spoils(2, 0)", NOT).due("part(0, 2)", 0).asked("spoils(2, 0)", 4);
    }

    private static void spoilsFromNoneToAll() {
        Run run = twoPairs("18: none to all");
        run.asked("spoils(1, 3)", 0).asked("spoils(0, 3)", 4).asked("spoils(1, 2)", 4).asked("spoils(0, 2)", 4).due("told(4)", 0);
        for (int slot = 0; slot < 4; slot++) {
            run.due("give(0, " + slot + ")", 3 - slot).asked("spoils(0, 2)", 3 - slot);
        }
        Run clash = twoPairs("18: clashes that are do not count").due("join(0, 3)", 4).asked("spoils(0, 2)", 0).asked("spoils(1, 2)", 0);
        clash.due("join(0, 2)", 4);
        Run four = Run.of(CHECK, "18: several pairs at once", "mesh 8 1 1 1;link 0 4;link 1 5;link 2 6;link 3 7;share 0 16;share 1 16"
            + ";share 2 16;share 3 16;want 4 0;want 5 0;want 6 0;want 7 0").due("cycle(0)", 15);
        four.due("join(0, 1)", 1).due("join(2, 3)", 2).asked("spoils(1, 2)", 3).due("join(1, 2)", 5);
    }

    private static void fewestFromNoneToEight() {
        for (int n = 2; n <= 8; n++) {
            String star = "mesh " + n + " 1 1 1";
            for (int station = 1; station < n; station++) {
                star += ";link 0 " + station;
            }
            Run.of(CHECK, "19: a star of " + n, star).asked("fewest()", n);
            Run.of(CHECK, "19: " + n + " apart", "mesh " + n + " 1 1 1").asked("fewest()", 1);
            String none = "mesh " + n + " 1 1 1";
            for (int station = 0; station < n; station++) {
                none += ";want " + station + " 0";
            }
            Run.of(CHECK, "19: nobody wants any of " + n, none).asked("fewest()", 0);
            Run.of(CHECK, "19: one of " + n + " wants some", none + ";want " + (n - 1) + " 4").asked("fewest()", 1);
        }
        Run held = twoPairs("19: what is held does not matter").asked("fewest()", 1).due("join(0, 2)", 4).asked("fewest()", 2);
        held.due("give(2, 0)", 3).asked("fewest()", 2);
        Run other = Run.of(CHECK, "19: what a later one holds does not matter", "mesh 4 2 1 1;link 2 3;share 3 16;want 3 2;want 2 0;want 1 0");
        other.due("frame(1)", 3).due("station(3, 4)", 3).due("join(0, 3)", 0).asked("fewest()", 2);
        Run chain = Run.of(CHECK, "19: by number", "mesh 4 1 1 1;link 0 1;link 1 2;link 2 3").asked("fewest()", 3);
        chain.write("want 1 0").due("mesh()", 1).asked("fewest()", 2).write("want 2 0").due("mesh()", 1).asked("fewest()", 1);
    }

    private static void hopsFromOneToSeven() {
        Run run = Run.of(CHECK, "20: hops", "mesh 8 1 1 1;link 0 1;link 1 2;link 2 3;link 3 4;link 4 5;link 5 6;link 6 7");
        for (int to = 1; to < 8; to++) {
            run.due("hops(0, " + to + ")", to).due("hops(" + to + ", 0)", to);
        }
        run.asked("hops(0, 7)", 7).due("part(3, 4)", 0).asked("hops(0, 7)", NONE).due("hops(7, 4)", 3).due("hops(0, 3)", 3);
        run.due("hops(3, 4)", NONE).due("join(7, 0)", 0).due("hops(3, 4)", 7).due("join(3, 4)", 0).due("hops(0, 4)", 4).due("hops(0, 5)", 3);
        new Run(CHECK, "20: no links").asked("hops(0, 1)", NONE).asked("hops(2, 0)", NONE);
    }

    private static void hopsRefused() {
        Run run = Run.of(CHECK, "20: refused", "mesh 4 1 1 1;link 0 1;link 2 3");
        for (int no : NO_STATION) {
            run.refused("hops(" + no + ", 1)", UNKNOWN).refused("hops(1, " + no + ")", UNKNOWN);
            run.refused("hops(" + no + ", " + no + ")", UNKNOWN);
        }
        for (int station = 0; station < 4; station++) {
            run.refused("hops(" + station + ", " + station + ")", UNKNOWN);
        }
        run.asked("hops(3, 2)", 1).asked("hops(0, 3)", NONE);
    }
}
