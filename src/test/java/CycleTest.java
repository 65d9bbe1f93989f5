/** Promises 8, 9, 16: cycle(), frame(), phase(). A share of 16 always asks, so most of these need no lots. */
public final class CycleTest {
    private static final Check CHECK = new Check("CycleTest");
    private static final String CHAIN_OF_FIVE = "mesh 5 2 1 1;link 0 1;link 1 2;link 2 3;link 3 4;want 1 0;want 2 0;want 3 0;want 4 0";

    public static void main(String[] args) {
        refused();
        alone();
        answered();
        reported();
        reportedByAnAskerIsNot();
        nearestByLots();
        nobodyAnswersAnAsker();
        askingByShare();
        halves();
        doubles();
        frames();
        lastCycle();
        CHECK.end();
    }

    private static void phases(String what, SlotMesh x, int... due) {
        for (int phase = 0; phase < 5; phase++) {
            CHECK.due("16: " + what + ", phase " + phase, x.phase(phase), due[phase]);
        }
    }

    private static void refused() {
        SlotMesh x = new SlotMesh();
        CHECK.due("8: past the last", x.cycle(2), SlotMesh.UNKNOWN);
        CHECK.due("8: ahead of the first", x.cycle(-1), SlotMesh.UNKNOWN);
        CHECK.due("9: too few", x.frame(0), SlotMesh.OUTSIDE);
        CHECK.due("9: fewer", x.frame(-1), SlotMesh.OUTSIDE);
        CHECK.due("9: too many", x.frame(13), SlotMesh.OUTSIDE);
        CHECK.due("16: none yet", x.phase(0), SlotMesh.NOT);
        CHECK.due("16: none yet", x.phase(4), SlotMesh.NOT);
        CHECK.due("16: OUTSIDE goes first", x.phase(5), SlotMesh.OUTSIDE);
        CHECK.due("16: OUTSIDE goes first", x.phase(-1), SlotMesh.OUTSIDE);
        CHECK.due("8: nothing changed", x.told(7), 1);
        CHECK.due("8: nothing to undo", x.told(9), 0);
    }

    private static void alone() {
        SlotMesh x = Check.of("mesh 2 1 1 1;share 0 16;share 1 16");
        CHECK.due("8: nobody hears", x.cycle(0), 0);
        phases("nobody hears", x, 3, 0, 3, 0, 0);
        CHECK.due("8: half", x.station(0, 1), 8);
    }

    private static void answered() {
        SlotMesh x = Check.of("mesh 2 1 1 1;link 0 1;share 0 16;want 1 0");
        CHECK.due("8: settled", x.cycle(0), 1);
        phases("answered", x, 1, 0, 1, 2, 1);
        CHECK.due("8: holds", x.station(0, 4), 1);
        CHECK.due("8: covered", x.station(0, 5), 1);
        CHECK.due("8: who gets it keeps its share", x.station(0, 1), 16);
        CHECK.due("8: nobody more", x.cycle(0), 0);
        phases("nobody more", x, 0, 0, 0, 0, 0);
    }

    private static void reported() {
        SlotMesh x = Check.of("mesh 3 1 1 1;link 0 1;link 0 2;share 1 16;share 2 16;want 0 0");
        CHECK.due("8: two at once", x.cycle(0), 0);
        phases("two at once", x, 6, 1, 0, 0, 0);
        CHECK.due("8: half", x.station(1, 1), 8);
        CHECK.due("8: half", x.station(2, 1), 8);
        CHECK.due("8: who does not ask", x.station(0, 1), 8);
        SlotMesh y = Check.of("mesh 6 1 1 1;link 0 1;link 0 2;link 3 4;share 1 16;share 2 16;share 3 16;want 0 0;want 4 0;want 5 0");
        CHECK.due("8: a report stops only those that hear it", y.cycle(0), 8);
        phases("two at once and one apart", y, 14, 1, 8, 16, 8);
    }

    private static void reportedByAnAskerIsNot() {
        // 1 hears both, but asks itself: it does not report, and nobody answers.
        SlotMesh x = Check.of("mesh 3 1 1 1;link 0 1;link 1 2;share 0 16;share 1 16;share 2 16");
        CHECK.due("8: all ask", x.cycle(0), 0);
        phases("all ask", x, 7, 0, 7, 0, 0);
    }

    private static void nearestByLots() {
        int ties = 0;
        for (int seed = 1; seed <= 999; seed += 2) {
            SlotMesh x = Check.of("mesh 4 1 1 " + seed + ";link 0 1;link 0 2;link 1 3;share 0 16;share 1 16;want 2 0;want 3 0");
            Lots lots = new Lots(seed);
            lots.of(16);
            lots.of(16);
            int first = lots.of(8);
            int second = lots.of(8);
            ties += first == second ? 1 : 0;
            CHECK.due("8: the greater lot, seed " + seed, x.cycle(0), first >= second ? 1 : 2);
            phases("the greater lot, seed " + seed, x, 3, 0, 3, 12, first >= second ? 1 : 2);
            CHECK.due("8: lots drawn, seed " + seed, x.told(7), lots.now());
        }
        CHECK.due("8: there were like lots", ties > 0);
        SlotMesh far = Check.of("mesh 4 1 1 1;link 0 1;link 2 3;share 0 16;share 2 16;want 1 0;want 3 0");
        CHECK.due("8: those apart have the same one", far.cycle(0), 5);
    }

    private static void nobodyAnswersAnAsker() {
        // 0 and 1 ask and hear each other; 1 alone is heard by 2, which answers, so 1 has it whatever the lots.
        for (int seed = 1; seed <= 99; seed++) {
            SlotMesh x = Check.of("mesh 3 1 1 " + seed + ";link 0 1;link 1 2;share 0 16;share 1 16;want 2 0");
            Lots lots = new Lots(seed);
            for (int i = 0; i < 4; i++) {
                lots.of(8);
            }
            CHECK.due("8: who hears an answer, seed " + seed, x.cycle(0), 2);
            phases("who hears an answer, seed " + seed, x, 3, 0, 3, 4, 2);
            CHECK.due("8: who hears none draws too, seed " + seed, x.told(7), lots.now());
        }
    }

    private static void askingByShare() {
        for (int share = 1; share <= 16; share++) {
            for (int seed = 1; seed <= 20; seed++) {
                SlotMesh x = Check.of("mesh 3 1 1 " + seed + ";share 0 " + share + ";share 2 " + share + ";want 1 0");
                Lots lots = new Lots(seed);
                int due = (lots.of(16) < share ? 1 : 0) + (lots.of(16) < share ? 4 : 0);
                x.cycle(0);
                CHECK.due("16: asking by a share of " + share + ", seed " + seed, x.phase(0), due);
            }
        }
    }

    private static void halves() {
        SlotMesh x = Check.of("mesh 2 1 1 3;share 0 15;want 1 0");
        Lots lots = new Lots(3);
        int share = 15;
        for (int i = 0; i < 150; i++) {
            boolean asks = lots.of(16) < share;
            if (asks) {
                lots.of(8);
                share = Math.max(1, share / 2);
            }
            x.cycle(0);
            CHECK.due("8: half, cycle " + i, x.station(0, 1), share);
        }
        CHECK.due("8: 1 at least", share, 1);
    }

    private static void doubles() {
        SlotMesh x = Check.of(CHAIN_OF_FIVE + ";share 0 16;share 3 5");
        CHECK.due("8: the first is settled", x.cycle(0), 1);
        int[] due = {16, 8, 8, 10, 8};
        for (int station = 0; station < 5; station++) {
            CHECK.due("8: twice just out of reach, " + station, x.station(station, 1), due[station]);
        }
        SlotMesh most = Check.of(CHAIN_OF_FIVE + ";share 0 16;share 3 9");
        most.cycle(0);
        CHECK.due("8: 16 at most", most.station(3, 1), 16);
        SlotMesh two = Check.of("mesh 8 1 1 1;link 0 1;link 1 2;link 2 3;link 3 4;link 4 5;link 5 6;share 0 16;share 6 16"
            + ";want 1 0;want 2 0;want 3 0;want 4 0;want 5 0;share 7 1");
        CHECK.due("8: both ends", two.cycle(0) & 65, 65);
        CHECK.due("8: twice once, though out of reach of both", two.station(3, 1), 16);
        SlotMesh none = Check.of(CHAIN_OF_FIVE + ";want 0 0;share 3 5");
        none.cycle(0);
        CHECK.due("8: nobody settled, nobody asks more", none.station(3, 1), 5);
    }

    private static void frames() {
        SlotMesh x = Check.of("mesh 4 3 2 7;link 0 1;link 1 2;link 2 3;want 0 2");
        SlotMesh y = Check.of("mesh 4 3 2 7;link 0 1;link 1 2;link 2 3;want 0 2");
        for (int n = 1; n <= 12; n++) {
            for (int i = 0; i < n; i++) {
                for (int slot = 0; slot < 3; slot++) {
                    y.cycle(slot);
                    y.cycle(slot);
                }
            }
            CHECK.due("9: covered behind " + n + " frames more", x.frame(n), Integer.bitCount(y.told(5)));
            CHECK.due("9: lots behind " + n + " frames more", x.told(7), y.told(7));
            for (int station = 0; station < 4; station++) {
                CHECK.due("9: holds", x.station(station, 4), y.station(station, 4));
                CHECK.due("9: share", x.station(station, 1), y.station(station, 1));
            }
            if (n == 6) {
                break;
            }
        }
        CHECK.due("9: one frame() is one to undo", x.told(9), 6);
        SlotMesh at = Check.of("mesh 4 1 1 7;want 0 0");
        SlotMesh most = Check.of("mesh 4 1 1 7;want 0 0");
        for (int i = 0; i < 12; i++) {
            at.frame(1);
        }
        CHECK.due("9: as many as may be", most.frame(12), 1);
        CHECK.due("9: lots behind twelve", most.told(7), at.told(7));
    }

    private static void lastCycle() {
        SlotMesh x = Check.of("mesh 2 2 1 1;link 0 1;share 0 16;want 1 0;want 0 2");
        CHECK.due("9: frame", x.frame(1), 2);
        phases("the last cycle of a frame", x, 1, 0, 1, 2, 1);
        CHECK.due("9: holds both", x.station(0, 4), 3);
        x.cycle(1);
        phases("a cycle of nobody", x, 0, 0, 0, 0, 0);
    }
}
