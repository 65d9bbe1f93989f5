/** Promises 10 to 15: give(), join(), part(), undo(), keep(), back(). */
public final class ChangeTest {
    private static final Check CHECK = new Check("ChangeTest");
    /** 0 takes both slots in a frame, 3 too; they are apart. */
    private static final String TWO_PAIRS = "mesh 4 2 1 5;link 0 1;link 2 3;want 0 2;want 3 2;want 1 0;want 2 0;share 0 16;share 3 16";

    public static void main(String[] args) {
        give();
        join();
        part();
        undo();
        undoEach();
        undoLast();
        keepAndBack();
        refusedAreNotUndone();
        CHECK.end();
    }

    private static SlotMesh twoPairs() {
        SlotMesh x = Check.of(TWO_PAIRS);
        CHECK.due("9: all four covered", x.frame(1), 4);
        return x;
    }

    private static void give() {
        SlotMesh x = twoPairs();
        CHECK.due("10: one yet", x.give(0, 0), 1);
        CHECK.due("10: holds the other", x.station(0, 4), 2);
        CHECK.due("10: covered no more", x.station(0, 5), 0);
        CHECK.due("10: not that one", x.give(0, 0), SlotMesh.NOT);
        CHECK.due("10: none yet", x.give(0, 1), 0);
        CHECK.due("10: others hold theirs", x.station(3, 4), 3);
        CHECK.due("10: no such station", x.give(4, 0), SlotMesh.UNKNOWN);
        CHECK.due("10: no such station", x.give(-1, 0), SlotMesh.UNKNOWN);
        CHECK.due("10: no such slot", x.give(0, 2), SlotMesh.UNKNOWN);
        CHECK.due("10: no such slot", x.give(0, -1), SlotMesh.UNKNOWN);
        CHECK.due("10: wants none, has none", x.give(1, 0), SlotMesh.NOT);
    }

    private static void join() {
        SlotMesh x = twoPairs();
        CHECK.due("11: no clash yet", x.join(1, 2), 0);
        CHECK.due("11: both ways", x.station(1, 2) * 16 + x.station(2, 2), 5 * 16 + 10);
        CHECK.due("11: they are", x.join(2, 1), SlotMesh.NOT);
        CHECK.due("11: two clashes", x.join(3, 0), 2);
        CHECK.due("11: clashes by slot", x.slot(1, 2), 1);
        CHECK.due("11: told", x.told(4), 2);
        CHECK.due("11: the same", x.join(1, 1), SlotMesh.UNKNOWN);
        CHECK.due("11: no such", x.join(1, 4), SlotMesh.UNKNOWN);
        CHECK.due("11: no such", x.join(4, 1), SlotMesh.UNKNOWN);
        CHECK.due("11: no such", x.join(-1, 1), SlotMesh.UNKNOWN);
        SlotMesh y = twoPairs();
        CHECK.due("11: one in common", y.join(0, 2), 2);
        everyPairClashes();
    }

    /** Senders 0 to 3, each with a listener of its own, take the one slot; then each pair of them is joined. */
    private static void everyPairClashes() {
        SlotMesh x = Check.of("mesh 8 1 1 1;link 0 4;link 1 5;link 2 6;link 3 7;share 0 16;share 1 16;share 2 16;share 3 16"
            + ";want 4 0;want 5 0;want 6 0;want 7 0");
        CHECK.due("11: four senders", x.cycle(0), 15);
        for (int one = 0; one < 4; one++) {
            for (int other = 0; other < 4; other++) {
                if (one != other) {
                    CHECK.due("18: spoils " + one + ", " + other, x.spoils(one, other), 1);
                    CHECK.due("11: clash of " + one + ", " + other, x.join(one, other), 1);
                    CHECK.due("12: parted " + one + ", " + other, x.part(other, one), 0);
                }
            }
        }
        CHECK.due("11: a chain of three, all near", x.join(0, 1) * 10 + x.join(1, 2), 13);
        CHECK.due("11: a chain of four, one pair apart", x.join(2, 3), 5);
    }

    private static void part() {
        SlotMesh x = twoPairs();
        CHECK.due("12: they are not", x.part(0, 3), SlotMesh.NOT);
        CHECK.due("12: clashes", x.join(0, 3), 2);
        CHECK.due("12: none any more", x.part(3, 0), 0);
        CHECK.due("12: not neighbours", x.station(0, 2), 2);
        CHECK.due("12: not neighbours", x.station(3, 2), 4);
        CHECK.due("12: again", x.part(3, 0), SlotMesh.NOT);
        CHECK.due("12: the same", x.part(2, 2), SlotMesh.UNKNOWN);
        CHECK.due("12: no such", x.part(0, 4), SlotMesh.UNKNOWN);
        CHECK.due("12: no such", x.part(-1, 0), SlotMesh.UNKNOWN);
        x.join(0, 2);
        x.join(0, 3);
        CHECK.due("12: clashes that stay", x.part(0, 3), 2);
        CHECK.due("12: holds stay", x.station(0, 4), 3);
    }

    private static void undo() {
        SlotMesh x = Check.of("mesh 5 2 2 9;link 0 1;link 1 2;link 2 3;link 3 4");
        String[] pictures = new String[12];
        int[] counts = {0, 1, 2, 3, 4, 5, 6, 7, 8, 8, 8, 8};
        for (int i = 0; i < 12; i++) {
            CHECK.due("13: can be undone", x.told(9), counts[i]);
            pictures[i] = withoutUndone(x);
            if (i % 4 == 0) {
                x.cycle(i / 4 % 2);
            } else if (i % 4 == 1) {
                x.frame(1);
            } else if (i % 4 == 2) {
                x.join(0, 2 + i / 4);
            } else {
                x.part(i / 4, i / 4 + 1);
            }
        }
        for (int i = 11; i >= 4; i--) {
            CHECK.due("13: can be undone yet", x.undo(), i - 4);
            CHECK.due("13: as it was, " + i, withoutUndone(x).equals(pictures[i]));
        }
        CHECK.due("13: none", x.undo(), SlotMesh.NOT);
        CHECK.due("13: as it was", withoutUndone(x).equals(pictures[4]));
        x.frame(1);
        CHECK.due("13: one again", x.undo(), 0);
        CHECK.due("13: as it was", withoutUndone(x).equals(pictures[4]));
    }

    private static String withoutUndone(SlotMesh x) {
        String all = Check.picture(x);
        String[] parts = all.split(" ");
        parts[9] = "";
        return String.join(" ", parts);
    }

    private static void undoEach() {
        SlotMesh x = twoPairs();
        CHECK.due("13: frame undone", x.undo(), 0);
        CHECK.due("13: no cycle was", x.phase(0), SlotMesh.NOT);
        CHECK.due("13: lots", x.told(7), 5);
        CHECK.due("13: holds", x.station(0, 4), 0);
        x.frame(1);
        x.give(0, 1);
        CHECK.due("13: give undone", x.undo(), 1);
        CHECK.due("13: holds again", x.station(0, 4), 3);
        x.join(0, 3);
        x.undo();
        CHECK.due("13: join undone", x.station(0, 2), 2);
        x.part(0, 1);
        x.undo();
        CHECK.due("13: part undone", x.station(0, 2), 2);
        SlotMesh shares = Check.of("mesh 2 1 1 1;share 0 16");
        shares.cycle(0);
        CHECK.due("13: half", shares.station(0, 1), 8);
        shares.undo();
        CHECK.due("13: share", shares.station(0, 1), 16);
    }

    private static void undoLast() {
        SlotMesh x = Check.of("mesh 2 1 1 1;link 0 1;share 0 16;want 1 0");
        x.cycle(0);
        x.cycle(0);
        CHECK.due("13: nobody asked", x.phase(0), 0);
        x.undo();
        CHECK.due("13: what the last cycle brought", x.phase(0), 1);
        CHECK.due("13: what the last cycle brought", x.phase(3), 2);
        Check.write(x, "xy");
        x.tally(0, 1, 4, 0, 0);
        x.undo();
        CHECK.due("13: the text stays", x.told(10), 2);
        CHECK.due("13: tallies stay", x.told(8), 1);
    }

    private static void keepAndBack() {
        SlotMesh x = twoPairs();
        CHECK.due("15: nothing kept", x.back(0), SlotMesh.NOT);
        CHECK.due("14: covered", x.keep(0), 4);
        CHECK.due("14: can be undone yet", x.told(9), 1);
        x.give(0, 0);
        x.part(2, 3);
        CHECK.due("14: covered", x.keep(1), 3);
        CHECK.due("14: no such", x.keep(2), SlotMesh.UNKNOWN);
        CHECK.due("14: no such", x.keep(-1), SlotMesh.UNKNOWN);
        CHECK.due("15: no such", x.back(2), SlotMesh.UNKNOWN);
        CHECK.due("15: no such", x.back(-1), SlotMesh.UNKNOWN);
        x.cycle(1);
        Check.write(x, "abc");
        x.tally(1, 2, 4, 5, 6);
        CHECK.due("15: covered", x.back(0), 4);
        CHECK.due("15: holds", x.station(0, 4), 3);
        CHECK.due("15: links", x.told(3), 2);
        CHECK.due("15: what the last cycle brought", x.phase(4), 9);
        CHECK.due("15: nothing can be undone", x.undo(), SlotMesh.NOT);
        CHECK.due("15: the text stays", x.told(10), 3);
        CHECK.due("15: tallies stay", x.reckon(1, 0), 50009);
        CHECK.due("15: the other one", x.back(1), 3);
        CHECK.due("15: links", x.told(3), 1);
        CHECK.due("15: often", x.back(0), 4);
        x.give(3, 0);
        CHECK.due("15: undone behind it", x.undo(), 0);
        x.give(3, 1);
        CHECK.due("14: over the old one", x.keep(0), 3);
        x.undo();
        CHECK.due("15: the newer one", x.back(0), 3);
        CHECK.due("15: holds", x.station(3, 4), 1);
        keptAheadOfCycles();
    }

    private static void keptAheadOfCycles() {
        SlotMesh x = Check.of("mesh 2 1 1 1;share 0 16");
        x.keep(1);
        x.cycle(0);
        x.back(1);
        CHECK.due("15: lots", x.told(7), 1);
        CHECK.due("15: share", x.station(0, 1), 16);
        CHECK.due("15: no cycle was", x.phase(0), SlotMesh.NOT);
    }

    private static void refusedAreNotUndone() {
        SlotMesh x = new SlotMesh();
        x.cycle(2);
        x.frame(13);
        x.give(0, 0);
        x.join(0, 0);
        x.part(0, 1);
        x.keep(0);
        x.after();
        x.spoils(0, 1);
        x.fewest();
        CHECK.due("13: none", x.told(9), 0);
        CHECK.due("13: none", x.undo(), SlotMesh.NOT);
    }
}
