import java.util.Arrays;

/**
 * Stations of a mesh that share out the slots of a frame among themselves.
 * Sets of stations and of slots are bits of an int: bit i stands for number i.
 */
public final class SlotMesh {
    public static final int NONE = -1, UNKNOWN = -2, OUTSIDE = -3, NOT = -4, FULL = -5, NULL = -11, EMPTY = -12, ROOM = -13;

    private static final int FEWEST_STATIONS = 2;
    private static final int MOST_STATIONS = 8;
    private static final int MOST_SLOTS = 4;
    private static final int MOST_CYCLES = 5;
    private static final int GREATEST_SEED = 999;
    private static final int MOST_WANTED = 4;
    private static final int GREATEST_SHARE = 16;
    private static final int FIRST_STATIONS = 3;
    private static final int FIRST_SLOTS = 2;
    private static final int FIRST_CYCLES = 2;
    private static final int FIRST_SEED = 1;
    private static final int FIRST_WANTED = 1;
    private static final int FIRST_SHARE = 8;
    private static final int PHASES = 5;
    private static final int MOST_FRAMES = 12;
    private static final int ASKING_LOT = 16;
    private static final int SETTLING_LOT = 8;
    private static final int MOST_LETTERS = 200;
    private static final int GREATEST_LETTER = 255;
    private static final int MOST_CLAUSES = 24;
    private static final int MOST_DIGITS = 3;
    private static final int MOST_UNDONE = 8;
    private static final int KEEPS = 2;
    private static final int TALLIES = 3;
    private static final int MOST_NUMBERS = 8;
    private static final int GREATEST_NUMBER = 999;
    private static final int NUMBER_BASE = 50000;

    private final Mesh now = new Mesh();
    /** Where a text is tried and the future is played through, so that now stays untouched. */
    private final Mesh trial = new Mesh();
    private final Text text = new Text();
    private final Past past = new Past();
    private final Mesh[] keeps = new Mesh[KEEPS];
    private final boolean[] kept = new boolean[KEEPS];
    private final Tally[] tallies = new Tally[TALLIES];

    public SlotMesh() {
        now.begin(FIRST_STATIONS, FIRST_SLOTS, FIRST_CYCLES, FIRST_SEED);
        for (int k = 0; k < KEEPS; k++) {
            keeps[k] = new Mesh();
        }
        for (int t = 0; t < TALLIES; t++) {
            tallies[t] = new Tally();
        }
    }

    // ---- what is told

    public int write(int letter) {
        if (letter < 0 || letter > GREATEST_LETTER) {
            return OUTSIDE;
        }
        if (text.isFull()) {
            return FULL;
        }
        return text.add(letter);
    }

    public int erase() {
        return text.clear();
    }

    public int fault() {
        trial.copyFrom(now);
        return text.readInto(trial);
    }

    public int mesh() {
        trial.copyFrom(now);
        if (text.readInto(trial) != NONE) {
            return NOT;
        }
        now.copyFrom(trial);
        now.forgetCycles();
        past.forget();
        for (int k = 0; k < KEEPS; k++) {
            kept[k] = false;
        }
        for (int t = 0; t < TALLIES; t++) {
            tallies[t].lose();
        }
        text.clear();
        return text.clausesRead();
    }

    public int station(int station, int what) {
        if (!now.isStation(station)) {
            return UNKNOWN;
        }
        switch (what) {
            case 0:
                return now.wants[station];
            case 1:
                return now.shares[station];
            case 2:
                return now.links[station];
            case 3:
                return now.near(station);
            case 4:
                return now.holds[station];
            case 5:
                return has(now.covered(), station) ? 1 : 0;
            default:
                return OUTSIDE;
        }
    }

    public int slot(int slot, int what) {
        if (!now.isSlot(slot)) {
            return UNKNOWN;
        }
        switch (what) {
            case 0:
                return now.holders(slot);
            case 1:
                return now.contenders(slot);
            case 2:
                return now.clashesBy(1 << slot);
            default:
                return OUTSIDE;
        }
    }

    // ---- what is done

    public int cycle(int slot) {
        if (!now.isSlot(slot)) {
            return UNKNOWN;
        }
        past.remember(now);
        now.runCycle(slot);
        return now.phases[PHASES - 1];
    }

    public int frame(int n) {
        if (n < 1 || n > MOST_FRAMES) {
            return OUTSIDE;
        }
        past.remember(now);
        for (int i = 0; i < n; i++) {
            now.runFrame();
        }
        return Integer.bitCount(now.covered());
    }

    public int give(int station, int slot) {
        if (!now.isStation(station) || !now.isSlot(slot)) {
            return UNKNOWN;
        }
        if (!has(now.holds[station], slot)) {
            return NOT;
        }
        past.remember(now);
        now.holds[station] &= ~(1 << slot);
        return Integer.bitCount(now.holds[station]);
    }

    public int join(int one, int other) {
        if (!now.isPair(one, other)) {
            return UNKNOWN;
        }
        if (has(now.links[one], other)) {
            return NOT;
        }
        past.remember(now);
        now.link(one, other);
        return now.clashes();
    }

    public int part(int one, int other) {
        if (!now.isPair(one, other)) {
            return UNKNOWN;
        }
        if (!has(now.links[one], other)) {
            return NOT;
        }
        past.remember(now);
        now.cut(one, other);
        return now.clashes();
    }

    public int undo() {
        if (past.size() == 0) {
            return NOT;
        }
        past.recall(now);
        return past.size();
    }

    public int keep(int k) {
        if (k < 0 || k >= KEEPS) {
            return UNKNOWN;
        }
        keeps[k].copyFrom(now);
        kept[k] = true;
        return Integer.bitCount(now.covered());
    }

    public int back(int k) {
        if (k < 0 || k >= KEEPS) {
            return UNKNOWN;
        }
        if (!kept[k]) {
            return NOT;
        }
        now.copyFrom(keeps[k]);
        past.forget();
        return Integer.bitCount(now.covered());
    }

    public int phase(int phase) {
        if (phase < 0 || phase >= PHASES) {
            return OUTSIDE;
        }
        return now.cycled ? now.phases[phase] : NOT;
    }

    // ---- foretold

    public int after() {
        trial.copyFrom(now);
        for (int frames = 0; frames < MOST_FRAMES; frames++) {
            if (trial.isDone()) {
                return frames;
            }
            trial.runFrame();
        }
        return trial.isDone() ? MOST_FRAMES : NONE;
    }

    public int spoils(int one, int other) {
        if (!now.isPair(one, other)) {
            return UNKNOWN;
        }
        if (has(now.links[one], other)) {
            return NOT;
        }
        trial.copyFrom(now);
        trial.link(one, other);
        return trial.clashes() - now.clashes();
    }

    public int fewest() {
        trial.copyFrom(now);
        return trial.dealOneSlotEach();
    }

    public int hops(int from, int to) {
        if (!now.isPair(from, to)) {
            return UNKNOWN;
        }
        int reached = 1 << from;
        for (int hops = 1; hops < MOST_STATIONS; hops++) {
            reached |= now.hearing(reached, 1);
            if (has(reached, to)) {
                return hops;
            }
        }
        return NONE;
    }

    // ---- tallies

    public int tally(int tally, int what, int a, int b, int c) {
        if (!isTally(tally)) {
            return UNKNOWN;
        }
        if (what < 0 || what > 3 || !isNumber(a) || !isNumber(b) || !isNumber(c)) {
            return OUTSIDE;
        }
        tallies[tally].begin(what, a, b, c);
        return tallies[tally].size;
    }

    public int append(int tally, int other) {
        if (!isTally(tally) || !isTally(other)) {
            return UNKNOWN;
        }
        if (tallies[tally].missing || tallies[other].missing) {
            return NULL;
        }
        if (tallies[tally].size + tallies[other].size > MOST_NUMBERS) {
            return ROOM;
        }
        tallies[tally].addAll(tallies[other]);
        return tallies[tally].size;
    }

    public int reckon(int tally, int what) {
        if (!isTally(tally)) {
            return UNKNOWN;
        }
        if (what < 0 || what > 3) {
            return OUTSIDE;
        }
        Tally asked = tallies[tally];
        if (asked.missing) {
            return NULL;
        }
        switch (what) {
            case 0:
                return NUMBER_BASE + asked.sum();
            case 1:
                return asked.size == 0 ? EMPTY : NUMBER_BASE + asked.greatest();
            case 2:
                return asked.size == 0 ? EMPTY : NUMBER_BASE + asked.least();
            default:
                return NUMBER_BASE + asked.swing();
        }
    }

    public int pop(int tally) {
        if (!isTally(tally)) {
            return UNKNOWN;
        }
        if (tallies[tally].missing) {
            return NULL;
        }
        if (tallies[tally].size == 0) {
            return EMPTY;
        }
        return NUMBER_BASE + tallies[tally].takeLast();
    }

    public int each(int tally, int what) {
        if (!isTally(tally)) {
            return UNKNOWN;
        }
        if (what < 0 || what > 2) {
            return OUTSIDE;
        }
        Tally changed = tallies[tally];
        if (changed.missing) {
            return NULL;
        }
        if (what == 0) {
            changed.negate();
        } else if (what == 1) {
            changed.twice();
        } else {
            changed.sumUp();
        }
        return changed.size;
    }

    public int drop(int tally) {
        if (!isTally(tally)) {
            return UNKNOWN;
        }
        if (tallies[tally].missing) {
            return NULL;
        }
        int size = tallies[tally].size;
        tallies[tally].lose();
        return size;
    }

    public int told(int what) {
        switch (what) {
            case 0:
                return now.stations;
            case 1:
                return now.slots;
            case 2:
                return now.cycles;
            case 3:
                return now.linkCount();
            case 4:
                return now.clashes();
            case 5:
                return now.covered();
            case 6:
                return now.isDone() ? 1 : 0;
            case 7:
                return now.lots;
            case 8:
                return numbersOfAll();
            case 9:
                return past.size();
            case 10:
                return text.length();
            default:
                return OUTSIDE;
        }
    }

    private int numbersOfAll() {
        int numbers = 0;
        for (int t = 0; t < TALLIES; t++) {
            numbers += tallies[t].size;
        }
        return numbers;
    }

    private static boolean isTally(int tally) {
        return tally >= 0 && tally < TALLIES;
    }

    private static boolean isNumber(int number) {
        return number >= -GREATEST_NUMBER && number <= GREATEST_NUMBER;
    }

    private static boolean has(int bits, int number) {
        return (bits >> number & 1) != 0;
    }

    /** All that a kept mesh keeps and that an undone call gives back. */
    private static final class Mesh {
        int stations;
        int slots;
        int cycles;
        int lots;
        boolean cycled;
        final int[] wants = new int[MOST_STATIONS];
        final int[] shares = new int[MOST_STATIONS];
        final int[] links = new int[MOST_STATIONS];
        final int[] holds = new int[MOST_STATIONS];
        final int[] phases = new int[PHASES];
        /** Used within one cycle only: a field, so that cycles make no arrays. */
        private final int[] drawn = new int[MOST_STATIONS];

        void begin(int newStations, int newSlots, int newCycles, int seed) {
            stations = newStations;
            slots = newSlots;
            cycles = newCycles;
            lots = seed;
            Arrays.fill(wants, FIRST_WANTED);
            Arrays.fill(shares, FIRST_SHARE);
            Arrays.fill(links, 0);
        }

        void forgetCycles() {
            cycled = false;
            Arrays.fill(holds, 0);
        }

        void copyFrom(Mesh other) {
            stations = other.stations;
            slots = other.slots;
            cycles = other.cycles;
            lots = other.lots;
            cycled = other.cycled;
            System.arraycopy(other.wants, 0, wants, 0, MOST_STATIONS);
            System.arraycopy(other.shares, 0, shares, 0, MOST_STATIONS);
            System.arraycopy(other.links, 0, links, 0, MOST_STATIONS);
            System.arraycopy(other.holds, 0, holds, 0, MOST_STATIONS);
            System.arraycopy(other.phases, 0, phases, 0, PHASES);
        }

        boolean isStation(int number) {
            return number >= 0 && number < stations;
        }

        boolean isSlot(int number) {
            return number >= 0 && number < slots;
        }

        boolean isPair(int one, int other) {
            return isStation(one) && isStation(other) && one != other;
        }

        void link(int one, int other) {
            links[one] |= 1 << other;
            links[other] |= 1 << one;
        }

        void cut(int one, int other) {
            links[one] &= ~(1 << other);
            links[other] &= ~(1 << one);
        }

        int linkCount() {
            int ends = 0;
            for (int s = 0; s < stations; s++) {
                ends += Integer.bitCount(links[s]);
            }
            return ends / 2;
        }

        int near(int station) {
            int bits = links[station];
            for (int s = 0; s < stations; s++) {
                if (has(links[station], s)) {
                    bits |= links[s];
                }
            }
            return bits & ~(1 << station);
        }

        /** Those that hear at least so many of the senders. */
        int hearing(int senders, int least) {
            int bits = 0;
            for (int s = 0; s < stations; s++) {
                if (Integer.bitCount(links[s] & senders) >= least) {
                    bits |= 1 << s;
                }
            }
            return bits;
        }

        int nearToAny(int others) {
            int bits = 0;
            for (int s = 0; s < stations; s++) {
                if ((near(s) & others) != 0) {
                    bits |= 1 << s;
                }
            }
            return bits;
        }

        int holders(int slot) {
            int bits = 0;
            for (int s = 0; s < stations; s++) {
                if (has(holds[s], slot)) {
                    bits |= 1 << s;
                }
            }
            return bits;
        }

        int covered() {
            int bits = 0;
            for (int s = 0; s < stations; s++) {
                if (Integer.bitCount(holds[s]) >= wants[s]) {
                    bits |= 1 << s;
                }
            }
            return bits;
        }

        boolean isDone() {
            return Integer.bitCount(covered()) == stations;
        }

        int clashes() {
            return clashesBy((1 << slots) - 1);
        }

        int clashesBy(int slotBits) {
            int clashes = 0;
            for (int one = 0; one < stations; one++) {
                int near = near(one);
                for (int other = one + 1; other < stations; other++) {
                    if (has(near, other)) {
                        clashes += Integer.bitCount(holds[one] & holds[other] & slotBits);
                    }
                }
            }
            return clashes;
        }

        int contenders(int slot) {
            int holders = holders(slot);
            return ~(covered() | holders | nearToAny(holders)) & ((1 << stations) - 1);
        }

        void runFrame() {
            for (int slot = 0; slot < slots; slot++) {
                for (int i = 0; i < cycles; i++) {
                    runCycle(slot);
                }
            }
        }

        void runCycle(int slot) {
            int asking = ask(contenders(slot));
            int reporting = hearing(asking, 2) & ~asking;
            int confirming = asking & ~hearing(reporting, 1);
            int answering = hearing(confirming, 1) & ~asking;
            int settled = settle(slot, confirming, answering);
            changeShares(asking, settled);
            cycled = true;
            phases[0] = asking;
            phases[1] = reporting;
            phases[2] = confirming;
            phases[3] = answering;
            phases[4] = settled;
        }

        private int drawLot(int k) {
            lots = (lots * 171 + 11213) % 53125;
            return k < 1 ? 0 : lots / 64 % k;
        }

        private int ask(int contenders) {
            int asking = 0;
            for (int s = 0; s < stations; s++) {
                if (has(contenders, s) && drawLot(ASKING_LOT) < shares[s]) {
                    asking |= 1 << s;
                }
            }
            return asking;
        }

        private int settle(int slot, int confirming, int answering) {
            // Also those that nobody answers draw: the lots of the others depend on it.
            for (int s = 0; s < stations; s++) {
                drawn[s] = has(confirming, s) ? drawLot(SETTLING_LOT) : NONE;
            }
            int settled = 0;
            for (int lot = SETTLING_LOT - 1; lot >= 0; lot--) {
                for (int s = 0; s < stations; s++) {
                    if (drawn[s] == lot && (links[s] & answering) != 0 && (near(s) & holders(slot)) == 0) {
                        holds[s] |= 1 << slot;
                        settled |= 1 << s;
                    }
                }
            }
            return settled;
        }

        private void changeShares(int asking, int settled) {
            int nearSettled = nearToAny(settled);
            int justOutOfReach = hearing(nearSettled, 1) & ~(nearSettled | settled);
            for (int s = 0; s < stations; s++) {
                if (has(asking, s)) {
                    if (!has(settled, s)) {
                        shares[s] = Math.max(1, shares[s] / 2);
                    }
                } else if (has(justOutOfReach, s)) {
                    shares[s] = Math.min(GREATEST_SHARE, shares[s] * 2);
                }
            }
        }

        /** Deals every station that wants some the least slot that is free to it; answers how many slots that took. */
        int dealOneSlotEach() {
            Arrays.fill(holds, 0);
            int used = 0;
            for (int s = 0; s < stations; s++) {
                if (wants[s] > 0) {
                    int slot = leastFree(s);
                    holds[s] = 1 << slot;
                    used = Math.max(used, slot + 1);
                }
            }
            return used;
        }

        private int leastFree(int station) {
            int near = near(station);
            int taken = 0;
            for (int s = 0; s < stations; s++) {
                if (has(near, s)) {
                    taken |= holds[s];
                }
            }
            int slot = 0;
            while (slot < MOST_STATIONS && has(taken, slot)) {
                slot++;
            }
            return slot;
        }
    }

    /** The latest meshes, each as it was ahead of a call that can be undone, in a ring. */
    private static final class Past {
        private final Mesh[] ring = new Mesh[MOST_UNDONE];
        private int next;
        private int count;

        Past() {
            for (int i = 0; i < MOST_UNDONE; i++) {
                ring[i] = new Mesh();
            }
        }

        int size() {
            return count;
        }

        void forget() {
            count = 0;
        }

        void remember(Mesh mesh) {
            ring[next].copyFrom(mesh);
            next = (next + 1) % MOST_UNDONE;
            count = Math.min(MOST_UNDONE, count + 1);
        }

        void recall(Mesh into) {
            if (count > 0) {
                next = (next + MOST_UNDONE - 1) % MOST_UNDONE;
                count--;
                into.copyFrom(ring[next]);
            }
        }
    }

    /** The text and its reader, which stands at one token, from start up to end; at the text's end both are its length. */
    private static final class Text {
        private final int[] letters = new int[MOST_LETTERS];
        private int length;
        private int start;
        private int end;
        private int value;
        private int clauses;

        int length() {
            return length;
        }

        boolean isFull() {
            return length >= MOST_LETTERS;
        }

        int add(int letter) {
            if (!isFull()) {
                letters[length] = letter;
                length++;
            }
            return length;
        }

        int clear() {
            int had = length;
            length = 0;
            return had;
        }

        int clausesRead() {
            return clauses;
        }

        /** Does the clauses up to the first fault; answers its place, or NONE. */
        int readInto(Mesh mesh) {
            end = 0;
            clauses = 0;
            while (clauses < MOST_CLAUSES) {
                nextToken();
                if (!readClause(mesh)) {
                    return start;
                }
                clauses++;
                nextToken();
                if (start == length) {
                    return NONE;
                }
                if (letters[start] != ';') {
                    return start;
                }
            }
            // Behind the last clause that may be, no ; can stand.
            return start;
        }

        private boolean readClause(Mesh mesh) {
            if (isWord("mesh")) {
                return readMesh(mesh);
            }
            if (isWord("link")) {
                return readLink(mesh);
            }
            if (isWord("want")) {
                return readOfStation(mesh.wants, mesh.stations, 0, MOST_WANTED);
            }
            if (isWord("share")) {
                return readOfStation(mesh.shares, mesh.stations, 1, GREATEST_SHARE);
            }
            return false;
        }

        private boolean readMesh(Mesh mesh) {
            if (!readNumber(FEWEST_STATIONS, MOST_STATIONS)) {
                return false;
            }
            int stations = value;
            if (!readNumber(1, MOST_SLOTS)) {
                return false;
            }
            int slots = value;
            if (!readNumber(1, MOST_CYCLES)) {
                return false;
            }
            int cycles = value;
            if (!readNumber(1, GREATEST_SEED)) {
                return false;
            }
            mesh.begin(stations, slots, cycles, value);
            return true;
        }

        private boolean readLink(Mesh mesh) {
            if (!readNumber(0, mesh.stations - 1)) {
                return false;
            }
            int one = value;
            if (!readNumber(0, mesh.stations - 1) || value == one) {
                return false;
            }
            mesh.link(one, value);
            return true;
        }

        private boolean readOfStation(int[] row, int stations, int least, int most) {
            if (!readNumber(0, stations - 1)) {
                return false;
            }
            int station = value;
            if (!readNumber(least, most)) {
                return false;
            }
            row[station] = value;
            return true;
        }

        private boolean readNumber(int least, int most) {
            nextToken();
            if (start == length || !isDigit(letters[start]) || end - start > MOST_DIGITS) {
                return false;
            }
            value = 0;
            for (int i = start; i < end; i++) {
                value = value * 10 + letters[i] - '0';
            }
            return value >= least && value <= most;
        }

        private void nextToken() {
            start = end;
            while (start < length && letters[start] == ' ') {
                start++;
            }
            end = start;
            if (start == length) {
                return;
            }
            end++;
            if (isSmall(letters[start])) {
                while (end < length && isSmall(letters[end])) {
                    end++;
                }
            } else if (isDigit(letters[start])) {
                while (end < length && isDigit(letters[end])) {
                    end++;
                }
            }
        }

        private boolean isWord(String word) {
            if (end - start != word.length()) {
                return false;
            }
            for (int i = 0; i < word.length(); i++) {
                if (letters[start + i] != word.charAt(i)) {
                    return false;
                }
            }
            return true;
        }

        private static boolean isSmall(int letter) {
            return letter >= 'a' && letter <= 'z';
        }

        private static boolean isDigit(int letter) {
            return letter >= '0' && letter <= '9';
        }
    }

    /** A row of numbers; a missing one has none. */
    private static final class Tally {
        private final int[] numbers = new int[MOST_NUMBERS];
        int size;
        boolean missing = true;

        void begin(int newSize, int a, int b, int c) {
            missing = false;
            size = newSize;
            numbers[0] = a;
            numbers[1] = b;
            numbers[2] = c;
        }

        void lose() {
            missing = true;
            size = 0;
        }

        void addAll(Tally other) {
            int added = other.size;
            if (size + added <= MOST_NUMBERS) {
                System.arraycopy(other.numbers, 0, numbers, size, added);
                size += added;
            }
        }

        int takeLast() {
            if (size > 0) {
                size--;
            }
            return numbers[size];
        }

        int sum() {
            int sum = 0;
            for (int i = 0; i < size; i++) {
                sum += numbers[i];
            }
            return sum;
        }

        int greatest() {
            int greatest = numbers[0];
            for (int i = 1; i < size; i++) {
                greatest = Math.max(greatest, numbers[i]);
            }
            return greatest;
        }

        int least() {
            int least = numbers[0];
            for (int i = 1; i < size; i++) {
                least = Math.min(least, numbers[i]);
            }
            return least;
        }

        /** The first times 1, less the second times 2, and the third times 3, and so on. */
        int swing() {
            int swing = 0;
            for (int i = 0; i < size; i++) {
                int weight = i % 2 == 0 ? i + 1 : -(i + 1);
                swing += weight * numbers[i];
            }
            return swing;
        }

        void negate() {
            for (int i = 0; i < size; i++) {
                numbers[i] = -numbers[i];
            }
        }

        void twice() {
            for (int i = 0; i < size; i++) {
                numbers[i] = held(2 * numbers[i]);
            }
        }

        void sumUp() {
            // The sum goes on unheld: it is of what the numbers were, not of what they become.
            int sum = 0;
            for (int i = 0; i < size; i++) {
                sum += numbers[i];
                numbers[i] = held(sum);
            }
        }

        private static int held(int number) {
            return Math.max(-GREATEST_NUMBER, Math.min(GREATEST_NUMBER, number));
        }
    }
}
