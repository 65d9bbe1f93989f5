/** Promises 17 to 20: after(), spoils(), fewest(), hops(). */
public final class ForetoldTest {
    private static final Check CHECK = new Check("ForetoldTest");

    public static void main(String[] args) {
        after();
        afterAsFramesTell();
        spoils();
        fewest();
        hops();
        CHECK.end();
    }

    private static void after() {
        CHECK.due("17: at once", Check.of("mesh 2 1 1 1;want 0 0;want 1 0").after(), 0);
        CHECK.due("17: one frame", Check.of("mesh 2 1 1 1;link 0 1;share 0 16;want 1 0").after(), 1);
        CHECK.due("17: never: nobody hears", new SlotMesh().after(), SlotMesh.NONE);
        CHECK.due("17: never: too few slots", Check.of("mesh 2 1 5 1;link 0 1;want 0 2").after(), SlotMesh.NONE);
    }

    private static void afterAsFramesTell() {
        int[] seen = new int[14];
        for (int seed = 1; seed <= 999; seed++) {
            SlotMesh x = Check.of("mesh 4 4 1 " + seed + ";link 0 1;link 1 2;link 2 3;share 0 1;share 1 1;share 2 1;share 3 2");
            String before = Check.picture(x);
            int foretold = x.after();
            CHECK.due("17: nothing changed", Check.picture(x).equals(before));
            int frames = 0;
            while (frames <= 12 && x.told(6) == 0) {
                x.frame(1);
                frames++;
            }
            CHECK.due("17: seed " + seed, foretold, frames > 12 ? SlotMesh.NONE : frames);
            seen[frames]++;
        }
        CHECK.due("17: 12 was among them", seen[12] > 0);
        CHECK.due("17: none was among them", seen[13] > 0);
    }

    private static void spoils() {
        SlotMesh x = Check.of("mesh 6 2 1 5;link 0 1;link 2 3;want 0 2;want 3 2;want 1 0;want 2 0;share 0 16;share 3 16;want 4 0;want 5 0");
        CHECK.due("18: ", x.frame(1), 6);
        String before = Check.picture(x);
        CHECK.due("18: neighbours", x.spoils(0, 3), 2);
        CHECK.due("18: one in common", x.spoils(0, 2), 2);
        CHECK.due("18: one in common", x.spoils(3, 1), 2);
        CHECK.due("18: too far", x.spoils(1, 2), 0);
        CHECK.due("18: elsewhere", x.spoils(4, 5), 0);
        CHECK.due("18: they are", x.spoils(0, 1), SlotMesh.NOT);
        CHECK.due("18: the same", x.spoils(3, 3), SlotMesh.UNKNOWN);
        CHECK.due("18: no such", x.spoils(0, 6), SlotMesh.UNKNOWN);
        CHECK.due("18: no such", x.spoils(-1, 0), SlotMesh.UNKNOWN);
        CHECK.due("18: nothing changed", Check.picture(x).equals(before));
        x.give(0, 1);
        CHECK.due("18: slot by slot", x.spoils(0, 3), 1);
        x.join(0, 3);
        CHECK.due("18: only those more", x.spoils(0, 2), 0);
    }

    private static void fewest() {
        CHECK.due("19: apart", new SlotMesh().fewest(), 1);
        CHECK.due("19: nobody", Check.of("want 0 0;want 1 0;want 2 0").fewest(), 0);
        CHECK.due("19: one", Check.of("want 0 0;want 1 0;want 2 4").fewest(), 1);
        CHECK.due("19: a pair", Check.of("link 0 1").fewest(), 2);
        CHECK.due("19: a chain", Check.of("mesh 6 1 1 1;link 0 1;link 1 2;link 2 3;link 3 4;link 4 5").fewest(), 3);
        String star = "mesh 8 4 1 1;link 0 1;link 0 2;link 0 3;link 0 4;link 0 5;link 0 6;link 0 7";
        CHECK.due("19: a star", Check.of(star).fewest(), 8);
        CHECK.due("19: a star, its middle wants none", Check.of(star + ";want 0 0").fewest(), 7);
        // Three would do for this chain, but by number 0 1 2 3 have 0 0 1 2 and 4 must have a fourth.
        CHECK.due("19: by number", Check.of("mesh 5 1 1 1;link 0 2;link 2 4;link 4 3;link 3 1").fewest(), 4);
        SlotMesh x = Check.of("mesh 2 1 1 1;link 0 1;share 0 16;want 1 0");
        x.cycle(0);
        String before = Check.picture(x);
        CHECK.due("19: whoever holds", x.fewest(), 1);
        CHECK.due("19: nothing changed", Check.picture(x).equals(before));
        SlotMesh z = Check.of("mesh 4 2 1 1;link 2 3;share 3 16;want 3 2;want 2 0;want 1 0");
        z.frame(1);
        CHECK.due("19: the last holds both slots", z.station(3, 4), 3);
        z.join(0, 3);
        CHECK.due("19: what is held does not matter", z.fewest(), 2);
    }

    private static void hops() {
        SlotMesh x = Check.of("mesh 8 1 1 1;link 0 1;link 1 2;link 2 3;link 3 4;link 4 5;link 5 6;link 6 7");
        for (int from = 0; from < 8; from++) {
            for (int to = 0; to < 8; to++) {
                CHECK.due("20: hops(" + from + ", " + to + ")", x.hops(from, to), from == to ? SlotMesh.UNKNOWN : Math.abs(from - to));
            }
        }
        CHECK.due("20: no such", x.hops(0, 8), SlotMesh.UNKNOWN);
        CHECK.due("20: no such", x.hops(8, 0), SlotMesh.UNKNOWN);
        CHECK.due("20: no such", x.hops(-1, 0), SlotMesh.UNKNOWN);
        x.join(0, 7);
        CHECK.due("20: the other way round", x.hops(1, 6), 3);
        x.part(3, 4);
        x.part(0, 7);
        CHECK.due("20: none", x.hops(0, 7), SlotMesh.NONE);
        CHECK.due("20: none", new SlotMesh().hops(0, 1), SlotMesh.NONE);
    }
}
