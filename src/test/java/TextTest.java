/** Promises 2 to 5: write(), erase(), fault(), mesh(). */
public final class TextTest {
    private static final Check CHECK = new Check("TextTest");

    public static void main(String[] args) {
        write();
        erase();
        sound();
        faults();
        lettersOfOld();
        clauseLimit();
        mesh();
        meshEndsAll();
        whatWasThereStays();
        CHECK.end();
    }

    private static void write() {
        SlotMesh x = new SlotMesh();
        CHECK.due("2: below", x.write(-1), SlotMesh.OUTSIDE);
        CHECK.due("2: above", x.write(256), SlotMesh.OUTSIDE);
        CHECK.due("2: least", x.write(0), 1);
        CHECK.due("2: greatest", x.write(255), 2);
        for (int i = 3; i <= 200; i++) {
            CHECK.due("2: letter " + i, x.write('a'), i);
        }
        CHECK.due("2: full", x.write('a'), SlotMesh.FULL);
        CHECK.due("2: OUTSIDE goes first", x.write(256), SlotMesh.OUTSIDE);
        CHECK.due("2: it has 200 yet", x.told(10), 200);
    }

    private static void erase() {
        SlotMesh x = new SlotMesh();
        CHECK.due("3: none", x.erase(), 0);
        Check.write(x, "mesh 3");
        CHECK.due("3: six", x.erase(), 6);
        CHECK.due("3: empty", x.told(10), 0);
        CHECK.due("3: again", x.erase(), 0);
        CHECK.due("3: written anew", x.write('q'), 1);
    }

    private static void sound() {
        String[] texts = {
            "mesh 2 1 1 1", "mesh 8 4 5 999", "link 0 1", "link 2 0;link 0 2", "want 0 0", "want 2 4", "share 0 1",
            "share 2 16", "mesh 008 004 005 001", "  link   0    1  ", "link 0 1 ; want 1 2", "link0 1;want1 2;share2 016",
            "mesh 8 1 1 1;link 7 6;want 7 0;share 7 3", "mesh 2 1 1 1;mesh 3 1 1 1;link 0 2"};
        for (String text : texts) {
            CHECK.due("4: '" + text + "'", Check.faultOf(text), SlotMesh.NONE);
        }
    }

    private static void faults() {
        Object[][] texts = {
            {"", 0}, {"   ", 3}, {"mesh", 4}, {"mesh ", 5}, {"mesh 3 1 1", 10}, {"mesh 3 1 1  ", 12}, {";", 0}, {"link 0 1;", 9},
            {"link 0 1; ", 10}, {"link 0 1;;", 9}, {"link 0 1 2", 9}, {"link 0 1 link 0 1", 9}, {"mesh 3 1 1 1 1", 13},
            {"mesh 2 1 1 x", 11}, {"mesh 2 1 1;", 10}, {"share 0 ;", 8},
            {"link 0" + " ".repeat(194), 200}, {"link" + " ".repeat(196), 200}, {" ".repeat(200), 200},
            {"Mesh 3 1 1 1", 0}, {"xesh 3 1 1 1", 0}, {"mesh 3 1 1 1z", 12}, {"meshz 3 1 1 1", 0}, {"zmesh 3 1 1 1", 0}, {"mes 3 1 1 1", 0}, {"meshx 3 1 1 1", 0}, {"mEsh 3 1 1 1", 0}, {"links 0 1", 0},
            {"3", 0}, {"link", 4}, {"link x 1", 5}, {"link ; 1", 5}, {"link 0;", 6}, {"link 0 x", 7}, {"link 0, 1", 6},
            {"link 0 -1", 7}, {"link 0 1.", 8}, {"link 0 1x", 8}, {"link 01", 7}, {"link 3 0", 5}, {"link 0 3", 7},
            {"link 1 1", 7}, {"link 1 01", 7}, {"link 0000 1", 5}, {"link 0 0001", 7}, {"link 0\t1", 6}, {"link\n0 1", 4},
            {"link" + (char) 233 + " 0 1", 4}, {"mesh 1 1 1 1", 5}, {"mesh 9 1 1 1", 5}, {"mesh 2 0 1 1", 7},
            {"mesh 2 5 1 1", 7}, {"mesh 2 1 0 1", 9}, {"mesh 2 1 6 1", 9}, {"mesh 2 1 1 0", 11}, {"mesh 2 1 1 1000", 11},
            {"mesh 2 1 1 0001", 11}, {"want 3 1", 5}, {"want 0 5", 7}, {"want 0", 6}, {"share 3 1", 6}, {"share 0 0", 8},
            {"share 0 17", 8}, {"share 0", 7}, {"share", 5}, {"want", 4}, {"mesh 2 1 1 1;want 2 1", 18},
            {"mesh 2 1 1 1;link 0 2", 20}, {"mesh 4 1 1 1;link 3 2;mesh 3 1 1 1;link 3 2", 40}, {" link 0 3", 8},
            {"want 0 99999999999999999999", 7}, {"mesh 4294967298 1 1 1", 5}, {"link 0 9;bad", 7}};
        for (Object[] row : texts) {
            String text = (String) row[0];
            CHECK.due("4: '" + text + "'", Check.faultOf(text), (Integer) row[1]);
            SlotMesh x = new SlotMesh();
            Check.write(x, text);
            String before = Check.picture(x);
            CHECK.due("5: '" + text + "'", x.mesh(), SlotMesh.NOT);
            CHECK.due("5: nothing changed by '" + text + "'", Check.picture(x).equals(before));
        }
    }

    /** Letters that were erased are not read again. */
    private static void lettersOfOld() {
        SlotMesh x = new SlotMesh();
        Check.write(x, "link 0 1234");
        x.erase();
        Check.write(x, "link 0 1");
        CHECK.due("4: digits of old", x.fault(), SlotMesh.NONE);
        x.erase();
        Check.write(x, "link0 1ab");
        x.erase();
        Check.write(x, "link");
        CHECK.due("4: letters of old", x.fault(), 4);
        x.erase();
        Check.write(x, "meshes");
        x.erase();
        Check.write(x, "mesh");
        CHECK.due("4: a word that was longer", x.fault(), 4);
        x.erase();
        Check.write(x, "share 0 1        ");
        x.erase();
        Check.write(x, "share 0 1");
        CHECK.due("4: blanks of old", x.fault(), SlotMesh.NONE);
        x.erase();
        Check.write(x, "a".repeat(200));
        CHECK.due("4: one word of 200", x.fault(), 0);
        x.erase();
        Check.write(x, "want 0 " + "1".repeat(193));
        CHECK.due("4: a number up to the last place", x.fault(), 7);
        x.erase();
        Check.write(x, "want 0 1" + " ".repeat(192));
        CHECK.due("4: blanks up to the last place", x.fault(), SlotMesh.NONE);
    }

    private static void clauseLimit() {
        String clause = "want0 1";
        String text = (clause + ";").repeat(23) + clause;
        CHECK.due("4: 24 clauses", Check.faultOf(text), SlotMesh.NONE);
        CHECK.due("5: 24 clauses", Check.of(text).told(0), 3);
        CHECK.due("4: a ; behind the 24th", Check.faultOf(text + ";"), text.length());
        CHECK.due("4: a 25th clause", Check.faultOf(text + ";" + clause), text.length());
        CHECK.due("4: another letter behind the 24th", Check.faultOf(text + " x"), text.length() + 1);
    }

    private static void mesh() {
        SlotMesh x = new SlotMesh();
        Check.write(x, "mesh 4 3 5 123;link 0 1;link 1 0;want 3 4;share 2 1;share 2 5");
        CHECK.due("5: fault() changes nothing", x.fault(), SlotMesh.NONE);
        CHECK.due("5: stations yet", x.told(0), 3);
        CHECK.due("5: clauses", x.mesh(), 6);
        int[] due = {4, 3, 5, 1, 0, 0, 0, 123, 0, 0, 0};
        for (int what = 0; what < due.length; what++) {
            CHECK.due("5: told(" + what + ")", x.told(what), due[what]);
        }
        CHECK.due("5: wants", x.station(3, 0), 4);
        CHECK.due("5: share, the later one", x.station(2, 1), 5);
        CHECK.due("5: the text is gone", x.mesh(), SlotMesh.NOT);
        SlotMesh y = Check.of("want 0 3;share 0 2;link 0 1;mesh 3 2 2 5");
        CHECK.due("5: all else as at first: wants", y.station(0, 0), 1);
        CHECK.due("5: all else as at first: share", y.station(0, 1), 8);
        CHECK.due("5: all else as at first: links", y.told(3), 0);
        SlotMesh big = Check.of("mesh 8 1 1 1;want 7 3;share 7 3;link 6 7");
        Check.write(big, "mesh 2 1 1 1");
        CHECK.due("5: fewer stations", big.mesh(), 1);
        Check.write(big, "mesh 8 1 1 1");
        CHECK.due("5: more again", big.mesh(), 1);
        CHECK.due("5: wants of old are gone", big.station(7, 0), 1);
        CHECK.due("5: shares of old are gone", big.station(7, 1), 8);
        CHECK.due("5: links of old are gone", big.station(7, 2), 0);
    }

    private static void meshEndsAll() {
        SlotMesh x = Check.of("mesh 2 1 1 1;link 0 1;share 0 16;want 1 0");
        x.tally(0, 1, 5, 0, 0);
        x.tally(2, 0, 5, 0, 0);
        x.cycle(0);
        x.keep(0);
        x.keep(1);
        CHECK.due("5: holds", x.station(0, 4), 1);
        Check.write(x, "want 0 2");
        CHECK.due("5: clauses", x.mesh(), 1);
        CHECK.due("5: nobody holds", x.station(0, 4), 0);
        CHECK.due("5: nobody holds", x.slot(0, 0), 0);
        CHECK.due("5: no cycle was", x.phase(0), SlotMesh.NOT);
        CHECK.due("5: none undone", x.undo(), SlotMesh.NOT);
        CHECK.due("5: none undone", x.told(9), 0);
        CHECK.due("5: nothing kept", x.back(0), SlotMesh.NOT);
        CHECK.due("5: nothing kept", x.back(1), SlotMesh.NOT);
        CHECK.due("5: tally missing", x.pop(0), SlotMesh.NULL);
        CHECK.due("5: tally missing", x.pop(2), SlotMesh.NULL);
        CHECK.due("5: no numbers", x.told(8), 0);
    }

    private static void whatWasThereStays() {
        SlotMesh x = Check.of("mesh 4 3 4 77;link 0 1;link 2 3;share 0 16;want 1 0;want 2 0;want 3 0");
        x.cycle(0);
        x.cycle(1);
        int lots = x.told(7);
        Check.write(x, "link 1 2");
        CHECK.due("5: sound", x.mesh(), 1);
        int[] due = {4, 3, 4, 3, 0, 14, 0, lots};
        for (int what = 0; what < due.length; what++) {
            CHECK.due("5: stays: told(" + what + ")", x.told(what), due[what]);
        }
        CHECK.due("5: share stays", x.station(0, 1), 16);
        CHECK.due("5: the seed is not put back", lots != 77);
        x.part(0, 1);
        Check.write(x, "share 3 4");
        x.mesh();
        CHECK.due("5: a link cut stays cut", x.told(3), 2);
    }
}
