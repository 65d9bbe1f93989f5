/** The bounds of THE TEXT (200 letters, 24 clauses, where a fault is): promises 2 to 5. */
public final class TextBoundsTest {
    private static final Check CHECK = new Check("TextBoundsTest");
    private static final int NONE = SlotMesh.NONE;
    private static final int NOT = SlotMesh.NOT;
    private static final int OUTSIDE = SlotMesh.OUTSIDE;
    private static final int FULL = SlotMesh.FULL;

    public static void main(String[] args) {
        lettersByNumber();
        lettersByCount();
        fullAndSound();
        fullAndFaulty();
        erased();
        clauses();
        numbersOfMesh();
        numbersOfStations();
        numbersAsOfThen();
        digits();
        everyLetterAhead();
        everyLetterBehindAWord();
        everyLetterBehindANumber();
        everyLetterAtTheEnd();
        endTooSoon();
        blanks();
        firstFaultOfSeveral();
        refusedDoesNothing();
        linkThatIs();
        allElseAsAtFirst();
        words();
        behindAText();
        CHECK.end();
    }

    private static void fault(String promise, String text, int place) {
        Run run = new Run(CHECK, promise + " '" + text + "'").write(text);
        run.asked("fault()", place);
        if (place != NONE) {
            run.refused("mesh()", NOT);
        }
    }

    private static void lettersByNumber() {
        Run run = new Run(CHECK, "2: a letter is 0 .. 255");
        run.refused("write(-1)", OUTSIDE).refused("write(256)", OUTSIDE);
        run.refused("write(" + Integer.MIN_VALUE + ")", OUTSIDE).refused("write(" + Integer.MAX_VALUE + ")", OUTSIDE);
        run.refused("write(" + (256 + 'a') + ")", OUTSIDE);
        run.due("write(0)", 1).due("write(255)", 2).due("write(1)", 3).due("write(254)", 4);
        run.refused("write(-1)", OUTSIDE).refused("write(256)", OUTSIDE).due("told(10)", 4);
    }

    private static void lettersByCount() {
        Run run = new Run(CHECK, "2: 200 letters at most");
        run.due("told(10)", 0).due("write(32)", 1);
        run.write(" ".repeat(197)).due("told(10)", 198).due("write(32)", 199).due("write(32)", 200);
        run.refused("write(32)", FULL).refused("write(0)", FULL).refused("write(255)", FULL);
        run.refused("write(256)", OUTSIDE).refused("write(-1)", OUTSIDE).due("told(10)", 200);
        run.due("erase()", 200).due("write(32)", 1);
    }

    private static void fullAndSound() {
        Run run = new Run(CHECK, "5: a text of 200 letters").write("link 0 1" + " ".repeat(191)).due("write(32)", 200);
        run.refused("write(120)", FULL).asked("fault()", NONE).due("mesh()", 1).due("told(3)", 1).due("told(10)", 0);
        run.due("write(32)", 1).asked("fault()", 1);
        Run last = new Run(CHECK, "5: a number in the 200th place").write(" ".repeat(192) + "want 2 4");
        last.refused("write(48)", FULL).due("fault()", NONE).due("mesh()", 1).due("station(2, 0)", 4);
        Run digits = new Run(CHECK, "5: three digits up to the 200th place").write(" ".repeat(190) + "want 2 004");
        digits.refused("write(48)", FULL).due("fault()", NONE).due("mesh()", 1).due("station(2, 0)", 4);
    }

    private static void fullAndFaulty() {
        Run run = new Run(CHECK, "4: a fault in the 200th place").write("link 0 1" + " ".repeat(191) + "x");
        run.refused("write(32)", FULL).asked("fault()", 199).refused("mesh()", NOT).due("told(10)", 200);
        Run end = new Run(CHECK, "4: too soon an end behind the 200th place").write("link 0 1;" + " ".repeat(191));
        end.refused("write(32)", FULL).asked("fault()", 200).refused("mesh()", NOT);
        Run word = new Run(CHECK, "4: a word cut off by the 200th place").write(" ".repeat(196) + "shar");
        word.refused("write(101)", FULL).asked("fault()", 196).refused("mesh()", NOT);
        Run whole = new Run(CHECK, "4: a word up to the 200th place").write(" ".repeat(195) + "share");
        whole.refused("write(32)", FULL).asked("fault()", 200).refused("mesh()", NOT);
    }

    private static void erased() {
        Run run = new Run(CHECK, "3: erase()");
        run.asked("erase()", 0).due("write(7)", 1).due("erase()", 1).due("told(10)", 0).asked("erase()", 0);
        run.write("link 0 1").due("erase()", 8).asked("fault()", 0).refused("mesh()", NOT);
        run.write("want 0 0").due("mesh()", 1).asked("erase()", 0);
        run.write("bad").refused("mesh()", NOT).due("erase()", 3);
    }

    private static void clauses() {
        String one = "want0 3";
        CHECK.due("4: 25 clauses have room in 200 letters", (one + ";").repeat(24).length() + one.length() <= 200);
        for (int count : new int[] {1, 2, 23, 24}) {
            Run run = new Run(CHECK, "5: " + count + " clauses").write((one + ";").repeat(count - 1) + one);
            run.asked("fault()", NONE).due("mesh()", count).due("station(0, 0)", 3).due("told(10)", 0);
        }
        String most = (one + ";").repeat(23) + one;
        fault("4: a ; behind the 24th", most + ";", most.length());
        fault("4: a 25th", most + ";" + one, most.length());
        fault("4: a ; behind the 24th and a blank", most + " ;", most.length() + 1);
        fault("4: blanks behind the 24th", most + "   ", NONE);
        fault("4: a fault in the 24th", most.substring(0, most.length() - 1) + "5", most.length() - 1);
        fault("4: the 24th is missing", (one + ";").repeat(23), 23 * 8);
    }

    private static void numbersOfMesh() {
        int[][] bounds = {{2, 8}, {1, 4}, {1, 5}, {1, 999}};
        for (int at = 0; at < 4; at++) {
            for (int side = 0; side < 2; side++) {
                int[] numbers = {3, 2, 2, 9};
                numbers[at] = bounds[at][side];
                fault("4: mesh, the last allowed,", meshOf(numbers), NONE);
                Run.of(CHECK, "5: " + meshOf(numbers), meshOf(numbers)).due("told(" + (at == 3 ? 7 : at) + ")", numbers[at]);
                numbers[at] += side == 0 ? -1 : 1;
                fault("4: mesh, the first that is not,", meshOf(numbers), 5 + 2 * at);
            }
        }
    }

    private static String meshOf(int[] numbers) {
        return "mesh " + numbers[0] + " " + numbers[1] + " " + numbers[2] + " " + numbers[3];
    }

    private static void numbersOfStations() {
        Object[][] rows = {
            {"link 0 1", NONE}, {"link 2 0", NONE}, {"link 0 2", NONE}, {"link 3 0", 5}, {"link 0 3", 7}, {"link -1 0", 5},
            {"link 0 -1", 7}, {"link 0 0", 7}, {"link 2 2", 7}, {"link 2 002", 7}, {"link 3 3", 5},
            {"want 0 0", NONE}, {"want 2 4", NONE}, {"want 0 5", 7}, {"want 3 0", 5}, {"want 3 5", 5}, {"want 0 -1", 7},
            {"want -1 0", 5}, {"want 1 1", NONE},
            {"share 0 1", NONE}, {"share 2 16", NONE}, {"share 0 0", 8}, {"share 0 17", 8}, {"share 3 1", 6}, {"share 3 0", 6},
            {"share 0 -1", 8}, {"share -1 1", 6}, {"share 1 1", NONE}, {"share 0 000", 8}, {"share 0 999", 8}, {"want 0 999", 7}};
        for (Object[] row : rows) {
            fault("4: bounds", (String) row[0], (Integer) row[1]);
        }
        Run.of(CHECK, "5: the least", "want 0 0;share 0 1").due("station(0, 0)", 0).due("station(0, 1)", 1);
        Run.of(CHECK, "5: the greatest", "want 2 4;share 2 16").due("station(2, 0)", 4).due("station(2, 1)", 16);
    }

    /** A station must be one as the clauses ahead have made the mesh, or else as it is. */
    private static void numbersAsOfThen() {
        for (int n = 2; n <= 8; n++) {
            String mesh = "mesh " + n + " 1 1 1";
            int last = n - 1;
            fault("4: the last station", mesh + ";link 0 " + last, NONE);
            fault("4: the last station", mesh + ";link " + last + " 0", NONE);
            fault("4: the last station", mesh + ";want " + last + " 0", NONE);
            fault("4: the last station", mesh + ";share " + last + " 1", NONE);
            fault("4: one too many", mesh + ";link 0 " + n, 20);
            fault("4: one too many", mesh + ";link " + n + " 0", 18);
            fault("4: one too many", mesh + ";want " + n + " 0", 18);
            fault("4: one too many", mesh + ";share " + n + " 1", 19);
            Run run = Run.of(CHECK, "4: stations of the last text", mesh).write("want " + last + " 0").due("fault()", NONE);
            run.due("erase()", 8).write("want " + n + " 0").asked("fault()", 5).refused("mesh()", NOT);
        }
        fault("4: ahead of a greater mesh", "want 3 0;mesh 4 1 1 1", 5);
        fault("4: behind a greater mesh", "mesh 4 1 1 1;want 3 0", NONE);
        fault("4: ahead of a smaller mesh", "want 2 0;mesh 2 1 1 1", NONE);
        fault("4: behind a smaller mesh", "mesh 2 1 1 1;want 2 0", 18);
        fault("4: the later mesh counts", "mesh 8 1 1 1;mesh 2 1 1 1;want 2 0", 31);
    }

    private static void digits() {
        Object[][] rows = {
            {"want 0 4", NONE}, {"want 0 04", NONE}, {"want 0 004", NONE}, {"want 0 0004", 7}, {"want 002 4", NONE},
            {"want 0002 4", 5}, {"link 000 001", NONE}, {"link 0000 1", 5}, {"link 0 0001", 7}, {"share 0 016", NONE},
            {"share 0 0016", 8}, {"mesh 002 001 001 001", NONE}, {"mesh 0002 1 1 1", 5}, {"mesh 2 0001 1 1", 7},
            {"mesh 2 1 0001 1", 9}, {"mesh 2 1 1 0001", 11}, {"mesh 2 1 1 0999", 11}, {"mesh 2 1 1 1000", 11},
            {"mesh 8589934594 1 1 1", 5}, {"mesh 2 1 1 4294967297", 11}, {"want 4294967296 0", 5}, {"want 0 18446744073709551616", 7}};
        for (Object[] row : rows) {
            fault("4: digits", (String) row[0], (Integer) row[1]);
        }
    }

    private static boolean isSmall(int letter) {
        return letter >= 97 && letter <= 122;
    }

    private static boolean isDigit(int letter) {
        return letter >= 48 && letter <= 57;
    }

    private static void everyLetterAhead() {
        for (int letter = 0; letter <= 255; letter++) {
            fault("4: letter " + letter + " ahead of a word", (char) letter + "link 0 1", letter == 32 ? NONE : 0);
        }
    }

    private static void everyLetterBehindAWord() {
        for (int letter = 0; letter <= 255; letter++) {
            int due = letter == 32 ? NONE : isSmall(letter) ? 0 : 4;
            if (letter == '0') {
                due = 6;
            } else if (letter == '1' || letter == '2') {
                due = 8;
            }
            fault("4: letter " + letter + " behind a word", "link" + (char) letter + " 0 1", due);
        }
    }

    /** A digit makes one number of three: only 001 is a station, and then the other one is missing at the end. */
    private static void everyLetterBehindANumber() {
        for (int letter = 0; letter <= 255; letter++) {
            int due = letter == 32 ? NONE : letter == '0' ? 8 : isDigit(letter) ? 5 : 6;
            fault("4: letter " + letter + " behind a number", "link 0" + (char) letter + "1", due);
        }
    }

    private static void everyLetterAtTheEnd() {
        for (int letter = 0; letter <= 255; letter++) {
            int due = letter == 32 ? NONE : letter == ';' ? 9 : isDigit(letter) ? 7 : 8;
            fault("4: letter " + letter + " at the end", "link 0 1" + (char) letter, due);
        }
    }

    private static void endTooSoon() {
        String text = "mesh 2 1 1 1;want 1 4";
        int[] due = {0, 0, 0, 0, 4, 5, 6, 7, 8, 9, 10, 11, NONE, 13, 13, 13, 13, 17, 18, 19, 20, NONE};
        for (int length = 0; length < due.length; length++) {
            fault("4: cut off", text.substring(0, length), due[length]);
        }
        String other = "share 0 16 ; link 1 2";
        int[] dueOther = {0, 0, 0, 0, 0, 5, 6, 7, 8, NONE, NONE, NONE, 12, 13, 13, 13, 13, 17, 18, 19, 20, NONE};
        for (int length = 0; length < dueOther.length; length++) {
            fault("4: cut off", other.substring(0, length), dueOther[length]);
        }
    }

    private static void blanks() {
        fault("4: blanks alone", " ", 1);
        fault("4: blanks around", "  link  0  1  ;  want  0  0  ", NONE);
        fault("4: no blank where tokens part by themselves", "link0 1;want0 0;share2 3", NONE);
        fault("4: a blank within a word", "li nk 0 1", 0);
        fault("4: a blank within a number", "share 0 1 6", 10);
        fault("4: two numbers run together", "link 01", 7);
        fault("4: an empty clause", "link 0 1; ;link 0 1", 10);
        fault("4: an empty clause ahead", " ;link 0 1", 1);
    }

    private static void firstFaultOfSeveral() {
        fault("4: the first of several", "link 9 9 9;bad", 5);
        fault("4: the first of several", "link 0 9;bad", 7);
        fault("4: the first of several", "link 0 1 bad;mesh 9", 9);
        fault("4: the first of several", "bad;link 0 9", 0);
        fault("4: the first of several", "mesh 9 9 9 0", 5);
        fault("4: the first of several", "mesh 2 9 9 0", 7);
        fault("4: the first of several", "mesh 2 1 9 0", 9);
        fault("4: the first of several", "mesh 2 1 1 0;", 11);
    }

    /** Also the clauses ahead of a fault are not done. */
    private static void refusedDoesNothing() {
        Run run = Run.of(CHECK, "5: refused", "mesh 3 2 1 5;link 0 1;share 0 16;want 1 0;want 2 3;share 2 5");
        run.due("frame(1)", 2).due("keep(1)", 2).due("give(0, 0)", 0).due("tally(1, 2, 7, 8, 9)", 2);
        run.write("mesh 8 4 5 999;want 2 0;share 2 1;link 1 2;link 3 8");
        run.asked("fault()", 50).refused("mesh()", NOT).due("told(10)", 51);
        run.due("erase()", 51).refused("mesh()", NOT);
        run.due("undo()", 1).due("station(0, 4)", 1).due("back(1)", 2);
    }

    private static void linkThatIs() {
        Run run = Run.of(CHECK, "5: link, also if they are", "link 0 1;link 0 1;link 1 0");
        run.due("told(3)", 1).due("station(0, 2)", 2).due("station(1, 2)", 1);
        run.write("link 1 0").due("mesh()", 1).due("told(3)", 1);
    }

    private static void allElseAsAtFirst() {
        Run run = Run.of(CHECK, "5: mesh, all else as at first", "mesh 8 4 5 999;link 0 1;link 6 7;want 0 4;want 7 0;share 0 16;share 7 1");
        run.write("mesh 2 1 1 1").due("mesh()", 1).due("told(3)", 0).dueFromZero("station(0, #)", 1, 8, 0, 0, 0, 0);
        run.write("mesh 8 1 1 1").due("mesh()", 1).due("told(3)", 0).dueFromZero("station(7, #)", 1, 8, 0, 0, 0, 0);
        run.dueFromZero("told(#)", 8, 1, 1, 0, 0, 0, 0, 1, 0, 0, 0);
        Run ahead = Run.of(CHECK, "5: clauses ahead of mesh", "link 0 1;want 0 4;share 0 1;mesh 3 2 2 1");
        ahead.due("told(3)", 0).dueFromZero("station(0, #)", 1, 8, 0, 0, 0, 0);
    }

    /** A word one letter off, at either end, one letter short or long. */
    private static void words() {
        String[] texts = {"mesh 2 1 1 1", "link 0 1", "want 0 1", "share 0 1"};
        for (String text : texts) {
            int length = text.indexOf(' ');
            fault("4: word", text, NONE);
            fault("4: another first letter", "x" + text.substring(1), 0);
            fault("4: another last letter", text.substring(0, length - 1) + "x" + text.substring(length), 0);
            fault("4: one letter short", text.substring(1), 0);
            fault("4: one letter short", text.substring(0, length - 1) + text.substring(length), 0);
            fault("4: one letter more", "x" + text, 0);
            fault("4: one letter more", text.substring(0, length) + "x" + text.substring(length), 0);
            fault("4: a great letter", Character.toUpperCase(text.charAt(0)) + text.substring(1), 0);
            fault("4: a great letter at the end", text.substring(0, length - 1) + "Z" + text.substring(length), 0);
        }
    }

    private static void behindAText() {
        Run run = Run.of(CHECK, "5: behind the clauses", "mesh 2 2 1 1;link 0 1;share 0 16;want 1 0");
        run.due("tally(0, 1, 5, 0, 0)", 1).due("tally(1, 0, 0, 0, 0)", 0).due("tally(2, 3, 1, 1, 1)", 3);
        run.due("keep(0)", 1).due("cycle(0)", 1).due("keep(1)", 2).due("slot(0, 0)", 1).due("phase(4)", 1);
        int lots = run.answer("told(7)");
        run.write("want 1 0").due("mesh()", 1);
        run.due("slot(0, 0)", 0).due("station(0, 4)", 0).due("station(0, 5)", 0).due("told(9)", 0).due("told(8)", 0);
        run.due("told(7)", lots).due("told(3)", 1).due("station(0, 1)", 16);
        run.refused("undo()", NOT).refused("back(0)", NOT).refused("back(1)", NOT);
        for (int number = 0; number < 5; number++) {
            run.refused("phase(" + number + ")", NOT);
        }
        for (int tally = 0; tally < 3; tally++) {
            run.refused("drop(" + tally + ")", SlotMesh.NULL);
        }
    }
}
