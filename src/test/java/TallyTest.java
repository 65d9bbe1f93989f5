/** Promises 21 to 26: tally(), append(), reckon(), pop(), each(), drop(). */
public final class TallyTest {
    private static final Check CHECK = new Check("TallyTest");

    public static void main(String[] args) {
        tally();
        append();
        reckon();
        pop();
        each();
        drop();
        missing();
        CHECK.end();
    }

    /** The numbers of a tally, which are gone then, as due: the last first. */
    private static void numbers(String what, SlotMesh x, int tally, int... due) {
        for (int i = due.length - 1; i >= 0; i--) {
            CHECK.due(what + ", number " + i, x.pop(tally), 50000 + due[i]);
        }
        CHECK.due(what + ", no more", x.pop(tally), SlotMesh.EMPTY);
    }

    private static void tally() {
        SlotMesh x = new SlotMesh();
        CHECK.due("21: of three", x.tally(2, 3, -999, 0, 999), 3);
        numbers("21: of three", x, 2, -999, 0, 999);
        CHECK.due("21: of two", x.tally(2, 2, 1, 2, 3), 2);
        numbers("21: of two", x, 2, 1, 2);
        CHECK.due("21: of one", x.tally(1, 1, 7, 2, 3), 1);
        numbers("21: of one", x, 1, 7);
        CHECK.due("21: empty", x.tally(0, 0, 1, 2, 3), 0);
        CHECK.due("21: empty", x.pop(0), SlotMesh.EMPTY);
        CHECK.due("21: no such", x.tally(3, 0, 0, 0, 0), SlotMesh.UNKNOWN);
        CHECK.due("21: no such", x.tally(-1, 0, 0, 0, 0), SlotMesh.UNKNOWN);
        CHECK.due("21: UNKNOWN goes first", x.tally(3, 4, 1000, 0, 0), SlotMesh.UNKNOWN);
        CHECK.due("21: what", x.tally(0, 4, 0, 0, 0), SlotMesh.OUTSIDE);
        CHECK.due("21: what", x.tally(0, -1, 0, 0, 0), SlotMesh.OUTSIDE);
        for (int what = 0; what <= 3; what++) {
            CHECK.due("21: a", x.tally(0, what, 1000, 0, 0), SlotMesh.OUTSIDE);
            CHECK.due("21: a", x.tally(0, what, -1000, 0, 0), SlotMesh.OUTSIDE);
            CHECK.due("21: b", x.tally(0, what, 0, 1000, 0), SlotMesh.OUTSIDE);
            CHECK.due("21: b", x.tally(0, what, 0, -1000, 0), SlotMesh.OUTSIDE);
            CHECK.due("21: c", x.tally(0, what, 0, 0, 1000), SlotMesh.OUTSIDE);
            CHECK.due("21: c", x.tally(0, what, 0, 0, Integer.MIN_VALUE), SlotMesh.OUTSIDE);
        }
        x.tally(0, 3, 1, 2, 3);
        CHECK.due("21: refused", x.tally(0, 0, 1000, 0, 0), SlotMesh.OUTSIDE);
        CHECK.due("21: nothing changed", x.told(8), 3);
        CHECK.due("21: a new one", x.tally(0, 1, 5, 0, 0), 1);
        CHECK.due("21: the old is gone", x.told(8), 1);
    }

    private static void append() {
        SlotMesh x = new SlotMesh();
        CHECK.due("22: no such", x.append(3, 0), SlotMesh.UNKNOWN);
        CHECK.due("22: no such", x.append(0, 3), SlotMesh.UNKNOWN);
        CHECK.due("22: no such", x.append(-1, 0), SlotMesh.UNKNOWN);
        CHECK.due("22: both missing", x.append(0, 1), SlotMesh.NULL);
        x.tally(0, 3, 1, 2, 3);
        CHECK.due("22: the other missing", x.append(0, 1), SlotMesh.NULL);
        CHECK.due("22: the one missing", x.append(1, 0), SlotMesh.NULL);
        x.tally(1, 2, 4, 5, 0);
        CHECK.due("22: five", x.append(0, 1), 5);
        CHECK.due("22: seven", x.append(0, 1), 7);
        CHECK.due("22: nine", x.append(0, 1), SlotMesh.ROOM);
        CHECK.due("22: nothing changed", x.told(8), 9);
        CHECK.due("22: itself", x.append(1, 1), 4);
        CHECK.due("22: itself", x.append(1, 1), 8);
        CHECK.due("22: itself", x.append(1, 1), SlotMesh.ROOM);
        x.tally(2, 0, 0, 0, 0);
        CHECK.due("22: an empty one behind a full one", x.append(1, 2), 8);
        CHECK.due("22: a full one behind an empty one", x.append(2, 1), 8);
        numbers("22: row", x, 0, 1, 2, 3, 4, 5, 4, 5);
        numbers("22: row of itself", x, 1, 4, 5, 4, 5, 4, 5, 4, 5);
        numbers("22: row", x, 2, 4, 5, 4, 5, 4, 5, 4, 5);
    }

    private static void reckon() {
        SlotMesh x = new SlotMesh();
        x.tally(0, 3, -5, 999, 7);
        CHECK.due("23: sum", x.reckon(0, 0), 51001);
        CHECK.due("23: greatest", x.reckon(0, 1), 50999);
        CHECK.due("23: least", x.reckon(0, 2), 49995);
        CHECK.due("23: swing", x.reckon(0, 3), 50000 - 5 - 2 * 999 + 3 * 7);
        x.tally(1, 3, -1, -2, -3);
        CHECK.due("23: greatest below 0", x.reckon(1, 1), 49999);
        CHECK.due("23: least, the last", x.reckon(1, 2), 49997);
        x.append(1, 0);
        CHECK.due("23: swing of six", x.reckon(1, 3), 50000 - 1 + 4 - 9 + 20 + 5 * 999 - 42);
        x.tally(1, 3, 5, 1, 3);
        CHECK.due("23: least, in the middle", x.reckon(1, 2), 50001);
        CHECK.due("23: greatest, the first", x.reckon(1, 1), 50005);
        x.tally(1, 3, 5, 9, 3);
        CHECK.due("23: greatest, in the middle", x.reckon(1, 1), 50009);
        CHECK.due("23: least, the last", x.reckon(1, 2), 50003);
        x.tally(1, 3, 5, -9, 700);
        x.pop(1);
        x.pop(1);
        for (int what = 0; what <= 3; what++) {
            CHECK.due("23: those that went do not count", x.reckon(1, what), 50005);
        }
        x.tally(2, 3, 999, -999, 999);
        x.append(2, 2);
        CHECK.due("23: swing, greatest", x.reckon(2, 3), 50000 + 999 * (1 + 2 + 3) + 999 * (-4 - 5 - 6));
        x.tally(2, 0, 0, 0, 0);
        CHECK.due("23: empty sum", x.reckon(2, 0), 50000);
        CHECK.due("23: empty greatest", x.reckon(2, 1), SlotMesh.EMPTY);
        CHECK.due("23: empty least", x.reckon(2, 2), SlotMesh.EMPTY);
        CHECK.due("23: empty swing", x.reckon(2, 3), 50000);
        CHECK.due("23: no such", x.reckon(3, 0), SlotMesh.UNKNOWN);
        CHECK.due("23: no such, no such what", x.reckon(-1, 4), SlotMesh.UNKNOWN);
        CHECK.due("23: no such what", x.reckon(0, 4), SlotMesh.OUTSIDE);
        CHECK.due("23: no such what", x.reckon(0, -1), SlotMesh.OUTSIDE);
        x.drop(0);
        CHECK.due("23: OUTSIDE goes first", x.reckon(0, 4), SlotMesh.OUTSIDE);
        CHECK.due("23: missing", x.reckon(0, 1), SlotMesh.NULL);
    }

    private static void pop() {
        SlotMesh x = new SlotMesh();
        x.tally(0, 2, -999, 999, 0);
        CHECK.due("24: last", x.pop(0), 50999);
        CHECK.due("24: one yet", x.told(8), 1);
        CHECK.due("24: first", x.pop(0), 49001);
        CHECK.due("24: none", x.pop(0), SlotMesh.EMPTY);
        CHECK.due("24: empty, not missing", x.drop(0), 0);
        CHECK.due("24: missing", x.pop(0), SlotMesh.NULL);
        CHECK.due("24: no such", x.pop(3), SlotMesh.UNKNOWN);
        CHECK.due("24: no such", x.pop(-1), SlotMesh.UNKNOWN);
    }

    private static void each() {
        SlotMesh x = new SlotMesh();
        x.tally(0, 3, -999, 0, 5);
        CHECK.due("25: less", x.each(0, 0), 3);
        numbers("25: less", x, 0, 999, 0, -5);
        x.tally(0, 3, 499, 500, -500);
        CHECK.due("25: twice", x.each(0, 1), 3);
        numbers("25: twice", x, 0, 998, 999, -999);
        x.tally(0, 2, -499, -999, 0);
        CHECK.due("25: twice", x.each(0, 1), 2);
        numbers("25: twice", x, 0, -998, -999);
        x.tally(0, 3, 1, 2, -4);
        CHECK.due("25: sums", x.each(0, 2), 3);
        numbers("25: sums", x, 0, 1, 3, -1);
        x.tally(0, 3, 900, 900, -900);
        CHECK.due("25: held sums are of what was", x.each(0, 2), 3);
        numbers("25: held sums are of what was", x, 0, 900, 999, 900);
        x.tally(0, 3, -900, -900, 900);
        CHECK.due("25: held sums are of what was", x.each(0, 2), 3);
        numbers("25: held sums are of what was", x, 0, -900, -999, -900);
        ofEight();
        x.tally(0, 0, 0, 0, 0);
        for (int what = 0; what <= 2; what++) {
            CHECK.due("25: of none", x.each(0, what), 0);
        }
        CHECK.due("25: no such", x.each(3, 0), SlotMesh.UNKNOWN);
        CHECK.due("25: no such, no such what", x.each(-1, 3), SlotMesh.UNKNOWN);
        CHECK.due("25: no such what", x.each(0, 3), SlotMesh.OUTSIDE);
        CHECK.due("25: no such what", x.each(0, -1), SlotMesh.OUTSIDE);
        CHECK.due("25: OUTSIDE goes first", x.each(1, 3), SlotMesh.OUTSIDE);
        CHECK.due("25: missing", x.each(1, 0), SlotMesh.NULL);
    }

    private static void ofEight() {
        SlotMesh x = new SlotMesh();
        x.tally(0, 2, 1, 2, 0);
        x.append(0, 0);
        x.append(0, 0);
        CHECK.due("23: sum of eight", x.reckon(0, 0), 50012);
        CHECK.due("23: greatest of eight", x.reckon(0, 1), 50002);
        CHECK.due("23: least of eight", x.reckon(0, 2), 50001);
        CHECK.due("23: swing of eight", x.reckon(0, 3), 50000 + 1 - 4 + 3 - 8 + 5 - 12 + 7 - 16);
        CHECK.due("25: sums of eight", x.each(0, 2), 8);
        CHECK.due("25: less of eight", x.each(0, 0), 8);
        CHECK.due("25: twice of eight", x.each(0, 1), 8);
        numbers("25: of eight", x, 0, -2, -6, -8, -12, -14, -18, -20, -24);
    }

    private static void drop() {
        SlotMesh x = new SlotMesh();
        x.tally(0, 3, 1, 1, 1);
        x.tally(1, 0, 1, 1, 1);
        CHECK.due("26: three", x.drop(0), 3);
        CHECK.due("26: missing now", x.drop(0), SlotMesh.NULL);
        CHECK.due("26: none", x.drop(1), 0);
        CHECK.due("26: missing", x.drop(2), SlotMesh.NULL);
        CHECK.due("26: no such", x.drop(3), SlotMesh.UNKNOWN);
        CHECK.due("26: no such", x.drop(-1), SlotMesh.UNKNOWN);
        CHECK.due("26: no numbers", x.told(8), 0);
        CHECK.due("26: made again", x.tally(0, 1, 9, 0, 0), 1);
    }

    private static void missing() {
        SlotMesh x = new SlotMesh();
        x.tally(0, 3, 1, 1, 1);
        x.drop(0);
        x.tally(1, 1, 1, 1, 1);
        CHECK.due("22: a dropped one", x.append(1, 0), SlotMesh.NULL);
        CHECK.due("25: a dropped one", x.each(0, 0), SlotMesh.NULL);
        CHECK.due("8: tallies are not undone", x.cycle(0), 0);
        x.undo();
        CHECK.due("13: yet there", x.told(8), 1);
    }
}
