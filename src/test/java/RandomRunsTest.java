import java.util.ArrayList;
import java.util.Arrays;
import java.util.List;
import java.util.Random;

/** Runs of 512 calls by chance (always the same ones), each answer compared with the model's. */
public final class RandomRunsTest {
    private static final int RUNS = 600;
    private static final int CALLS = 512;
    /** What is answered behind the 512th call is free, but no call may ever throw: the last run goes far beyond it. */
    private static final int CALLS_OF_LAST = 20000;
    private static final int[] WILD = {-1, -2, 1000, -1000, Integer.MAX_VALUE, Integer.MIN_VALUE, 31, 32, 33, 64};

    private final Random random;
    private final Check check;
    private final int most;
    private final SlotMesh mesh = new SlotMesh();
    private final Model model = new Model();
    private final List<String> calls = new ArrayList<>();

    private RandomRunsTest(Check check, int seed) {
        this.check = check;
        most = seed == RUNS - 1 ? CALLS_OF_LAST : CALLS;
        random = new Random(seed);
    }

    public static void main(String[] args) {
        Check check = new Check("RandomRunsTest");
        for (int run = 0; run < RUNS; run++) {
            if (!new RandomRunsTest(check, run).run()) {
                break;
            }
        }
        check.end();
    }

    private boolean run() {
        boolean same = true;
        while (same && calls.size() < most) {
            int kind = random.nextInt(40);
            same = kind == 0 ? text() : kind < 22 ? doing() : kind < 30 ? tallying() : asking();
        }
        return same;
    }

    private boolean same(String name, int... a) {
        String call = name + Arrays.toString(a);
        calls.add(call);
        int got = Calls.answer(mesh, name, a);
        int want = model.call(name, a);
        check.due(call + " at the end of " + calls.subList(Math.max(0, calls.size() - 12), calls.size()), got, want);
        return got == want;
    }

    /** Up to this bound, seldom a bit beyond it or far out. */
    private int upTo(int bound) {
        int kind = random.nextInt(60);
        return kind == 0 ? WILD[random.nextInt(WILD.length)] : kind == 1 ? -1 : kind == 2 ? bound : random.nextInt(bound);
    }

    private int number() {
        return random.nextInt(40) == 0 ? upTo(1000) * 3 : random.nextInt(3) == 0 ? random.nextInt(1999) - 999 : random.nextInt(21) - 10;
    }

    private int slots() {
        return mesh.told(1);
    }

    private int stations() {
        return mesh.told(0);
    }

    private boolean text() {
        StringBuilder text = new StringBuilder();
        int n = 2 + random.nextInt(7);
        if (random.nextInt(4) > 0) {
            text.append("mesh ").append(n).append(' ').append(1 + random.nextInt(4)).append(' ').append(1 + random.nextInt(5))
                .append(' ').append(1 + random.nextInt(999));
        } else {
            n = stations();
            text.append("link ").append(random.nextInt(n)).append(' ').append(random.nextInt(n));
        }
        int clauses = random.nextInt(16);
        for (int i = 0; i < clauses; i++) {
            int kind = random.nextInt(6);
            text.append(';');
            int other = kind < 4 ? random.nextInt(n) : kind == 4 ? random.nextInt(5) : 1 + random.nextInt(16);
            text.append(kind < 4 ? "link " : kind == 4 ? "want " : "share ");
            int one = random.nextInt(n);
            text.append(one).append(' ').append(kind < 4 && other == one ? (one + 1) % n : other);
        }
        if (random.nextInt(3) == 0) {
            spoil(text);
        }
        boolean same = true;
        for (int i = 0; same && i < text.length() && calls.size() < most; i++) {
            same = same("write", text.charAt(i));
        }
        same = same && same("fault") && same("mesh");
        return same && (random.nextInt(3) > 0 || same("erase")) && same("told", 10);
    }

    private void spoil(StringBuilder text) {
        String letters = "0123456789 ;abmeshlinkwantshare.,AZ@[`{/:";
        int at = random.nextInt(text.length());
        switch (random.nextInt(4)) {
            case 0:
                text.deleteCharAt(at);
                break;
            case 1:
                text.setCharAt(at, letters.charAt(random.nextInt(letters.length())));
                break;
            case 2:
                text.insert(at, letters.charAt(random.nextInt(letters.length())));
                break;
            default:
                text.setCharAt(at, (char) random.nextInt(256));
                break;
        }
    }

    private boolean doing() {
        switch (random.nextInt(16)) {
            case 0: case 1: case 2: case 3:
                return same("cycle", upTo(slots())) && phases();
            case 4:
                return same("frame", random.nextInt(3) == 0 ? upTo(14) : 1) && phases();
            case 5: case 6: case 7:
                return same("give", upTo(stations()), upTo(slots()));
            case 8: case 9: case 10:
                return same("join", upTo(stations()), upTo(stations()));
            case 11: case 12:
                return same("part", upTo(stations()), upTo(stations()));
            case 13:
                return same("undo") && phases();
            case 14:
                return random.nextInt(3) > 0 || same("keep", upTo(2));
            default:
                return random.nextInt(3) > 0 || same("back", upTo(2)) && phases();
        }
    }

    private boolean phases() {
        boolean same = true;
        for (int phase = 0; same && phase < 5; phase++) {
            same = same("phase", phase);
        }
        return same && same("told", 7);
    }

    private boolean tallying() {
        switch (random.nextInt(7)) {
            case 0: case 1:
                return same("tally", upTo(3), upTo(4), number(), number(), number());
            case 2:
                return same("append", upTo(3), upTo(3));
            case 3:
                return same("reckon", upTo(3), upTo(4));
            case 4:
                return same("pop", upTo(3));
            case 5:
                return same("each", upTo(3), upTo(3)) && same("reckon", 0, 3);
            default:
                return random.nextInt(3) > 0 || same("drop", upTo(3));
        }
    }

    private boolean asking() {
        switch (random.nextInt(8)) {
            case 0:
                return same("after");
            case 1:
                return same("spoils", upTo(stations()), upTo(stations()));
            case 2:
                return same("fewest");
            case 3:
                return same("hops", upTo(stations()), upTo(stations()));
            case 4:
                return same("phase", upTo(5));
            case 5:
                return same("slot", upTo(slots()), upTo(3));
            case 6:
                return same("told", upTo(11));
            default:
                return same("station", upTo(stations()), upTo(6));
        }
    }
}
