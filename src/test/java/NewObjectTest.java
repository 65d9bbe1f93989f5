/** Promises 1, 6, 7, 27: a new object; station(), slot(), told(). */
public final class NewObjectTest {
    private static final Check CHECK = new Check("NewObjectTest");

    public static void main(String[] args) {
        newObject();
        stationOfMesh();
        near();
        slotOfMesh();
        told();
        CHECK.end();
    }

    private static void newObject() {
        SlotMesh x = new SlotMesh();
        int[] due = {3, 2, 2, 0, 0, 0, 0, 1, 0, 0, 0};
        for (int what = 0; what < due.length; what++) {
            CHECK.due("1: told(" + what + ")", x.told(what), due[what]);
        }
        int[] ofStation = {1, 8, 0, 0, 0, 0};
        for (int station = 0; station < 3; station++) {
            for (int what = 0; what < ofStation.length; what++) {
                CHECK.due("1: station(" + station + ", " + what + ")", x.station(station, what), ofStation[what]);
            }
        }
        for (int tally = 0; tally < 3; tally++) {
            CHECK.due("1: tally missing", x.drop(tally), SlotMesh.NULL);
        }
        CHECK.due("1: nothing kept", x.back(0), SlotMesh.NOT);
        CHECK.due("1: nothing kept", x.back(1), SlotMesh.NOT);
        CHECK.due("1: nothing to undo", x.undo(), SlotMesh.NOT);
        CHECK.due("1: no cycle", x.phase(0), SlotMesh.NOT);
    }

    private static void stationOfMesh() {
        SlotMesh x = Check.of("mesh 5 4 1 9;link 0 1;link 1 2;want 1 4;want 2 0;share 3 16;share 4 1");
        int[][] due = {{1, 8, 2, 6, 0, 0}, {4, 8, 5, 5, 0, 0}, {0, 8, 2, 3, 0, 1}, {1, 16, 0, 0, 0, 0}, {1, 1, 0, 0, 0, 0}};
        for (int station = 0; station < due.length; station++) {
            for (int what = 0; what < 6; what++) {
                CHECK.due("6: station(" + station + ", " + what + ")", x.station(station, what), due[station][what]);
            }
        }
        CHECK.due("6: past the last", x.station(5, 0), SlotMesh.UNKNOWN);
        CHECK.due("6: ahead of the first", x.station(-1, 0), SlotMesh.UNKNOWN);
        CHECK.due("6: what too great", x.station(0, 6), SlotMesh.OUTSIDE);
        CHECK.due("6: what too small", x.station(0, -1), SlotMesh.OUTSIDE);
        CHECK.due("6: UNKNOWN goes first", x.station(5, 6), SlotMesh.UNKNOWN);
        CHECK.due("6: far", x.station(Integer.MAX_VALUE, Integer.MIN_VALUE), SlotMesh.UNKNOWN);
        CHECK.due("6: far", x.station(Integer.MIN_VALUE, 0), SlotMesh.UNKNOWN);
    }

    private static void near() {
        SlotMesh triangle = Check.of("mesh 4 1 1 1;link 0 1;link 1 2;link 2 0;link 2 3");
        CHECK.due("6: near in a triangle", triangle.station(0, 3), 14);
        CHECK.due("6: nobody is near to itself", triangle.station(2, 3), 11);
        SlotMesh chain = Check.of("mesh 8 1 1 1;link 0 1;link 1 2;link 2 3;link 3 4;link 4 5;link 5 6;link 6 7");
        int[] due = {6, 13, 27, 54, 108, 216, 176, 96};
        for (int station = 0; station < 8; station++) {
            CHECK.due("6: near in a chain, " + station, chain.station(station, 3), due[station]);
        }
    }

    private static void slotOfMesh() {
        SlotMesh x = Check.of("mesh 6 2 1 1;link 0 1;link 2 3;link 4 5;share 0 16;want 1 0;share 2 16;want 3 0;want 4 0;want 5 0");
        CHECK.due("7: contenders", x.slot(0, 1), 5);
        CHECK.due("7: cycle", x.cycle(0), 5);
        CHECK.due("7: holders", x.slot(0, 0), 5);
        CHECK.due("7: holders of the other", x.slot(1, 0), 0);
        CHECK.due("7: covered ones contend no more", x.slot(1, 1), 0);
        CHECK.due("7: no clash", x.slot(0, 2), 0);
        CHECK.due("7: join", x.join(1, 2), 1);
        CHECK.due("7: a clash", x.slot(0, 2), 1);
        CHECK.due("7: none by the other", x.slot(1, 2), 0);
        CHECK.due("7: past the last", x.slot(2, 0), SlotMesh.UNKNOWN);
        CHECK.due("7: ahead of the first", x.slot(-1, 0), SlotMesh.UNKNOWN);
        CHECK.due("7: what too great", x.slot(1, 3), SlotMesh.OUTSIDE);
        CHECK.due("7: what too small", x.slot(1, -1), SlotMesh.OUTSIDE);
        CHECK.due("7: UNKNOWN goes first", x.slot(2, 3), SlotMesh.UNKNOWN);
        contendersOfAll();
    }

    private static void contendersOfAll() {
        SlotMesh x = Check.of("mesh 5 2 1 1;link 0 1;link 1 2;link 2 3;link 3 4;want 0 2;share 0 16;want 1 0;want 4 0");
        CHECK.due("7: those that want none do not contend", x.slot(0, 1), 13);
        SlotMesh y = Check.of("mesh 5 2 1 1;link 0 1;link 1 2;link 2 3;link 3 4;want 0 2;share 0 16;want 1 0;want 2 0;want 3 0;want 4 0");
        CHECK.due("7: cycle", y.cycle(0), 1);
        CHECK.due("7: a holder does not contend for the same one", y.slot(0, 1), 0);
        CHECK.due("7: it does for another one, wanting two", y.slot(1, 1), 1);
        SlotMesh nearFirst = Check.of("mesh 4 1 1 1;link 2 3;share 2 16;want 3 0;want 1 0");
        nearFirst.cycle(0);
        CHECK.due("7: the third holds it", nearFirst.slot(0, 0), 4);
        CHECK.due("7: the first is out of reach", nearFirst.slot(0, 1), 1);
        nearFirst.join(0, 1);
        nearFirst.join(1, 2);
        CHECK.due("7: the first is near", nearFirst.slot(0, 1), 0);
    }

    private static void told() {
        SlotMesh x = Check.of("mesh 8 4 5 999;link 0 1;link 1 0;link 6 7;want 7 0;want 0 0");
        int[] due = {8, 4, 5, 2, 0, 129, 0, 999, 0, 0, 0};
        for (int what = 0; what < due.length; what++) {
            CHECK.due("27: told(" + what + ")", x.told(what), due[what]);
        }
        Check.write(x, "abc");
        x.tally(0, 2, 1, 1, 1);
        x.tally(2, 3, 1, 1, 1);
        x.tally(1, 0, 1, 1, 1);
        x.join(2, 3);
        CHECK.due("27: links", x.told(3), 3);
        CHECK.due("27: numbers", x.told(8), 5);
        CHECK.due("27: undone", x.told(9), 1);
        CHECK.due("27: letters", x.told(10), 3);
        CHECK.due("27: too great", x.told(11), SlotMesh.OUTSIDE);
        CHECK.due("27: too small", x.told(-1), SlotMesh.OUTSIDE);
        SlotMesh peace = Check.of("mesh 2 1 1 1;want 0 0;want 1 0");
        CHECK.due("27: done", peace.told(6), 1);
        CHECK.due("27: covered", peace.told(5), 3);
    }
}
