/** Compares answers with what is due, prints those that differ, and ends the test with exit code 1 if there was one. */
final class Check {
    private final String name;
    private int asked;
    private int wrong;

    Check(String name) {
        this.name = name;
    }

    void due(String what, long got, long want) {
        asked++;
        if (got != want) {
            wrong++;
            System.out.println(name + ": " + what + " answered " + got + ", due is " + want);
        }
    }

    void due(String what, boolean holds) {
        due(what, holds ? 1 : 0, 1);
    }

    void end() {
        System.out.println(name + ": " + asked + " answers, " + wrong + " not as due");
        if (wrong != 0 || asked == 0) {
            System.exit(1);
        }
    }

    static void write(SlotMesh x, String text) {
        for (int i = 0; i < text.length(); i++) {
            x.write(text.charAt(i));
        }
    }

    /** A new object with this text done. */
    static SlotMesh of(String text) {
        SlotMesh x = new SlotMesh();
        write(x, text);
        int clauses = x.mesh();
        if (clauses != text.split(";").length) {
            throw new IllegalStateException("the test's own text is faulty: " + text);
        }
        return x;
    }

    /** Where the fault of this text is, on a new object. */
    static int faultOf(String text) {
        SlotMesh x = new SlotMesh();
        write(x, text);
        return x.fault();
    }

    /** All that can be asked without changing anything, as one text. */
    static String picture(SlotMesh x) {
        StringBuilder all = new StringBuilder();
        for (int what = 0; what <= 10; what++) {
            all.append(x.told(what)).append(' ');
        }
        for (int station = 0; station < 8; station++) {
            for (int what = 0; what <= 5; what++) {
                all.append(x.station(station, what)).append(' ');
            }
        }
        for (int slot = 0; slot < 4; slot++) {
            for (int what = 0; what <= 2; what++) {
                all.append(x.slot(slot, what)).append(' ');
            }
        }
        for (int phase = 0; phase < 5; phase++) {
            all.append(x.phase(phase)).append(' ');
        }
        for (int tally = 0; tally < 3; tally++) {
            for (int what = 0; what <= 3; what++) {
                all.append(x.reckon(tally, what)).append(' ');
            }
        }
        return all.append(x.fault()).toString();
    }
}
