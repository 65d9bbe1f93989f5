import java.util.ArrayDeque;
import java.util.ArrayList;
import java.util.Arrays;
import java.util.Comparator;
import java.util.Deque;
import java.util.HashMap;
import java.util.List;
import java.util.Map;
import java.util.Set;
import java.util.TreeMap;
import java.util.TreeSet;
import java.util.regex.Matcher;
import java.util.regex.Pattern;

/** The document once more, written apart from the class and with the Java library, to compare answers with. */
final class Model {
    private static final class World {
        int n = 3;
        int m = 2;
        int c = 2;
        long lots = 1;
        int[] want = filled(1);
        int[] share = filled(8);
        boolean[][] link = new boolean[8][8];
        List<Set<Integer>> hold = emptySets(8);
        List<Set<Integer>> phases;

        World copy() {
            World w = new World();
            w.n = n;
            w.m = m;
            w.c = c;
            w.lots = lots;
            w.want = want.clone();
            w.share = share.clone();
            for (int i = 0; i < 8; i++) {
                w.link[i] = link[i].clone();
                w.hold.set(i, new TreeSet<>(hold.get(i)));
            }
            w.phases = phases;
            return w;
        }

        int distance(int a, int b) {
            if (a == b) {
                return 0;
            }
            Map<Integer, Integer> far = new HashMap<>(Map.of(a, 0));
            Deque<Integer> queue = new ArrayDeque<>(List.of(a));
            while (!queue.isEmpty()) {
                int at = queue.remove();
                for (int next = 0; next < n; next++) {
                    if (link[at][next] && !far.containsKey(next)) {
                        far.put(next, far.get(at) + 1);
                        queue.add(next);
                    }
                }
            }
            return far.getOrDefault(b, -1);
        }

        boolean near(int a, int b) {
            int d = distance(a, b);
            return d == 1 || d == 2;
        }

        boolean covered(int s) {
            return hold.get(s).size() >= want[s];
        }

        boolean contends(int s, int slot) {
            if (covered(s) || hold.get(s).contains(slot)) {
                return false;
            }
            for (int o = 0; o < n; o++) {
                if (near(s, o) && hold.get(o).contains(slot)) {
                    return false;
                }
            }
            return true;
        }

        int lot(int k) {
            lots = (lots * 171 + 11213) % 53125;
            return (int) (lots / 64 % k);
        }

        int heard(int s, Set<Integer> of) {
            return (int) of.stream().filter(o -> link[s][o]).count();
        }

        Set<Integer> cycle(int slot) {
            Set<Integer> asking = new TreeSet<>();
            Set<Integer> reporting = new TreeSet<>();
            Set<Integer> confirming = new TreeSet<>();
            Set<Integer> answering = new TreeSet<>();
            Set<Integer> settled = new TreeSet<>();
            boolean[] contends = new boolean[8];
            for (int s = 0; s < n; s++) {
                contends[s] = contends(s, slot);
            }
            for (int s = 0; s < n; s++) {
                if (contends[s] && lot(16) < share[s]) {
                    asking.add(s);
                }
            }
            for (int s = 0; s < n; s++) {
                if (!asking.contains(s) && heard(s, asking) > 1) {
                    reporting.add(s);
                }
            }
            for (int s : asking) {
                if (heard(s, reporting) == 0) {
                    confirming.add(s);
                }
            }
            for (int s = 0; s < n; s++) {
                if (!asking.contains(s) && heard(s, confirming) > 0) {
                    answering.add(s);
                }
            }
            Map<Integer, Integer> drawn = new TreeMap<>();
            for (int s : confirming) {
                drawn.put(s, lot(8));
            }
            List<Integer> order = new ArrayList<>(confirming);
            order.sort(Comparator.comparing((Integer s) -> -drawn.get(s)).thenComparing(s -> s));
            for (int s : order) {
                boolean free = true;
                for (int o = 0; o < n; o++) {
                    free &= !(near(s, o) && hold.get(o).contains(slot));
                }
                if (heard(s, answering) > 0 && free) {
                    hold.get(s).add(slot);
                    settled.add(s);
                }
            }
            shares(asking, settled);
            phases = List.of(asking, reporting, confirming, answering, settled);
            return settled;
        }

        boolean nearOne(int s, Set<Integer> of) {
            return of.stream().anyMatch(o -> near(s, o));
        }

        void shares(Set<Integer> asking, Set<Integer> settled) {
            for (int s = 0; s < n; s++) {
                if (asking.contains(s)) {
                    if (!settled.contains(s)) {
                        share[s] = share[s] < 2 ? 1 : share[s] / 2;
                    }
                    continue;
                }
                boolean reach = false;
                for (int o = 0; o < n; o++) {
                    reach |= link[s][o] && nearOne(o, settled);
                }
                if (reach && !nearOne(s, settled) && !settled.contains(s)) {
                    share[s] = share[s] > 8 ? 16 : 2 * share[s];
                }
            }
        }

        void frame() {
            for (int slot = 0; slot < m; slot++) {
                for (int i = 0; i < c; i++) {
                    cycle(slot);
                }
            }
        }

        int clashes(int slot) {
            int count = 0;
            for (int a = 0; a < n; a++) {
                for (int b = 0; b < a; b++) {
                    if (near(a, b) && hold.get(a).contains(slot) && hold.get(b).contains(slot)) {
                        count++;
                    }
                }
            }
            return count;
        }

        int clashes() {
            int count = 0;
            for (int slot = 0; slot < m; slot++) {
                count += clashes(slot);
            }
            return count;
        }

        Set<Integer> coveredOnes() {
            Set<Integer> all = new TreeSet<>();
            for (int s = 0; s < n; s++) {
                if (covered(s)) {
                    all.add(s);
                }
            }
            return all;
        }
    }

    private World world = new World();
    private String text = "";
    private final Deque<World> undo = new ArrayDeque<>();
    private final World[] kept = new World[2];
    private final List<List<Integer>> tallies = new ArrayList<>(Arrays.asList(null, null, null));

    private static int[] filled(int value) {
        int[] row = new int[8];
        Arrays.fill(row, value);
        return row;
    }

    private static List<Set<Integer>> emptySets(int count) {
        List<Set<Integer>> sets = new ArrayList<>();
        for (int i = 0; i < count; i++) {
            sets.add(new TreeSet<>());
        }
        return sets;
    }

    private static int bits(Set<Integer> set) {
        return set.stream().mapToInt(i -> 1 << i).sum();
    }

    /** One call by its name; what it is to answer. */
    int call(String name, int... a) {
        switch (name) {
            case "write":
                if (a[0] < 0 || a[0] > 255) {
                    return -3;
                }
                if (text.length() == 200) {
                    return -5;
                }
                text += (char) a[0];
                return text.length();
            case "erase":
                int had = text.length();
                text = "";
                return had;
            case "fault":
                return read(world.copy(), new int[1]);
            case "mesh":
                return mesh();
            case "station":
                return station(a[0], a[1]);
            case "slot":
                return slot(a[0], a[1]);
            case "phase":
                return a[0] < 0 || a[0] > 4 ? -3 : world.phases == null ? -4 : bits(world.phases.get(a[0]));
            case "told":
                return told(a[0]);
            case "after": case "spoils": case "fewest": case "hops":
                return foretold(name, a);
            case "tally": case "append": case "reckon": case "pop": case "each": case "drop":
                return tallied(name, a);
            default:
                return done(name, a);
        }
    }

    private int mesh() {
        World next = world.copy();
        int[] clauses = new int[1];
        if (read(next, clauses) != -1) {
            return -4;
        }
        world = next;
        world.hold = emptySets(8);
        world.phases = null;
        undo.clear();
        Arrays.fill(kept, null);
        for (int t = 0; t < 3; t++) {
            tallies.set(t, null);
        }
        text = "";
        return clauses[0];
    }

    /** Cuts the text into tokens first, then lets each clause take its own. */
    private int read(World w, int[] clauses) {
        List<String> tokens = new ArrayList<>();
        List<Integer> places = new ArrayList<>();
        Matcher matcher = Pattern.compile("[a-z]+|[0-9]+|[^ ]", Pattern.DOTALL).matcher(text);
        while (matcher.find()) {
            tokens.add(matcher.group());
            places.add(matcher.start());
        }
        tokens.add("");
        places.add(text.length());
        int at = 0;
        while (true) {
            String word = tokens.get(at);
            if (!List.of("mesh", "link", "want", "share").contains(word)) {
                return places.get(at);
            }
            int[] values = new int[4];
            int count = word.equals("mesh") ? 4 : 2;
            for (int i = 0; i < count; i++) {
                at++;
                String token = tokens.get(at);
                if (!token.matches("[0-9]{1,3}")) {
                    return places.get(at);
                }
                values[i] = Integer.parseInt(token);
                if (!fits(w, word, values, i)) {
                    return places.get(at);
                }
            }
            apply(w, word, values);
            clauses[0]++;
            at++;
            if (tokens.get(at).isEmpty()) {
                return -1;
            }
            if (!tokens.get(at).equals(";") || clauses[0] == 24) {
                return places.get(at);
            }
            at++;
        }
    }

    private static boolean fits(World w, String word, int[] v, int i) {
        int value = v[i];
        if (word.equals("mesh")) {
            int[] least = {2, 1, 1, 1};
            int[] most = {8, 4, 5, 999};
            return value >= least[i] && value <= most[i];
        }
        if (i == 0) {
            return value < w.n;
        }
        if (word.equals("link")) {
            return value < w.n && value != v[0];
        }
        return word.equals("want") ? value <= 4 : value >= 1 && value <= 16;
    }

    private static void apply(World w, String word, int[] v) {
        if (word.equals("mesh")) {
            w.n = v[0];
            w.m = v[1];
            w.c = v[2];
            w.lots = v[3];
            w.want = filled(1);
            w.share = filled(8);
            w.link = new boolean[8][8];
        } else if (word.equals("link")) {
            w.link[v[0]][v[1]] = true;
            w.link[v[1]][v[0]] = true;
        } else {
            (word.equals("want") ? w.want : w.share)[v[0]] = v[1];
        }
    }

    private boolean noStation(int s) {
        return s < 0 || s >= world.n;
    }

    private boolean noSlot(int s) {
        return s < 0 || s >= world.m;
    }

    private int station(int s, int what) {
        if (noStation(s)) {
            return -2;
        }
        Set<Integer> neighbours = new TreeSet<>();
        Set<Integer> near = new TreeSet<>();
        for (int o = 0; o < world.n; o++) {
            if (world.link[s][o]) {
                neighbours.add(o);
            }
            if (world.near(s, o)) {
                near.add(o);
            }
        }
        int[] answers = {world.want[s], world.share[s], bits(neighbours), bits(near), bits(world.hold.get(s)),
            world.covered(s) ? 1 : 0};
        return what < 0 || what >= answers.length ? -3 : answers[what];
    }

    private int slot(int slot, int what) {
        if (noSlot(slot)) {
            return -2;
        }
        Set<Integer> holders = new TreeSet<>();
        Set<Integer> contenders = new TreeSet<>();
        for (int s = 0; s < world.n; s++) {
            if (world.hold.get(s).contains(slot)) {
                holders.add(s);
            }
            if (world.contends(s, slot)) {
                contenders.add(s);
            }
        }
        int[] answers = {bits(holders), bits(contenders), world.clashes(slot)};
        return what < 0 || what >= answers.length ? -3 : answers[what];
    }

    private int told(int what) {
        int links = 0;
        for (int s = 0; s < world.n; s++) {
            for (int o = 0; o < s; o++) {
                links += world.link[s][o] ? 1 : 0;
            }
        }
        int numbers = 0;
        for (List<Integer> tally : tallies) {
            numbers += tally == null ? 0 : tally.size();
        }
        Set<Integer> covered = world.coveredOnes();
        int[] answers = {world.n, world.m, world.c, links, world.clashes(), bits(covered),
            covered.size() == world.n ? 1 : 0, (int) world.lots, numbers, undo.size(), text.length()};
        return what < 0 || what >= answers.length ? -3 : answers[what];
    }

    private void remember() {
        undo.addLast(world.copy());
        if (undo.size() > 8) {
            undo.removeFirst();
        }
    }

    private int done(String name, int[] a) {
        switch (name) {
            case "cycle":
                if (noSlot(a[0])) {
                    return -2;
                }
                remember();
                return bits(world.cycle(a[0]));
            case "frame":
                if (a[0] < 1 || a[0] > 12) {
                    return -3;
                }
                remember();
                for (int i = 0; i < a[0]; i++) {
                    world.frame();
                }
                return world.coveredOnes().size();
            case "give":
                if (noStation(a[0]) || noSlot(a[1])) {
                    return -2;
                }
                if (!world.hold.get(a[0]).contains(a[1])) {
                    return -4;
                }
                remember();
                world.hold.get(a[0]).remove(a[1]);
                return world.hold.get(a[0]).size();
            case "join": case "part":
                if (noStation(a[0]) || noStation(a[1]) || a[0] == a[1]) {
                    return -2;
                }
                boolean linked = name.equals("join");
                if (world.link[a[0]][a[1]] == linked) {
                    return -4;
                }
                remember();
                world.link[a[0]][a[1]] = linked;
                world.link[a[1]][a[0]] = linked;
                return world.clashes();
            case "undo":
                if (undo.isEmpty()) {
                    return -4;
                }
                world = undo.removeLast();
                return undo.size();
            case "keep":
                if (a[0] != 0 && a[0] != 1) {
                    return -2;
                }
                kept[a[0]] = world.copy();
                return world.coveredOnes().size();
            case "back":
                if (a[0] != 0 && a[0] != 1) {
                    return -2;
                }
                if (kept[a[0]] == null) {
                    return -4;
                }
                world = kept[a[0]].copy();
                undo.clear();
                return world.coveredOnes().size();
            default:
                throw new IllegalArgumentException(name);
        }
    }

    private int foretold(String name, int[] a) {
        World w = world.copy();
        switch (name) {
            case "after":
                for (int frames = 0; frames <= 12; frames++) {
                    if (w.coveredOnes().size() == w.n) {
                        return frames;
                    }
                    w.frame();
                }
                return -1;
            case "fewest":
                Map<Integer, Integer> dealt = new TreeMap<>();
                for (int s = 0; s < w.n; s++) {
                    int slot = 0;
                    while (w.want[s] > 0 && dealt.containsKey(s) == false) {
                        int tried = slot;
                        int station = s;
                        if (dealt.entrySet().stream().noneMatch(e -> e.getValue() == tried && w.near(station, e.getKey()))) {
                            dealt.put(s, slot);
                        }
                        slot++;
                    }
                }
                return new TreeSet<>(dealt.values()).size();
            default:
                if (noStation(a[0]) || noStation(a[1]) || a[0] == a[1]) {
                    return -2;
                }
                if (name.equals("hops")) {
                    return w.distance(a[0], a[1]);
                }
                if (w.link[a[0]][a[1]]) {
                    return -4;
                }
                w.link[a[0]][a[1]] = true;
                w.link[a[1]][a[0]] = true;
                return w.clashes() - world.clashes();
        }
    }

    private static boolean noTally(int t) {
        return t < 0 || t > 2;
    }

    private static int held(int v) {
        return v > 999 ? 999 : v < -999 ? -999 : v;
    }

    private int tallied(String name, int[] a) {
        if (noTally(a[0]) || name.equals("append") && noTally(a[1])) {
            return -2;
        }
        List<Integer> row = tallies.get(a[0]);
        switch (name) {
            case "tally":
                if (a[1] < 0 || a[1] > 3 || held(a[2]) != a[2] || held(a[3]) != a[3] || held(a[4]) != a[4]) {
                    return -3;
                }
                tallies.set(a[0], new ArrayList<>(List.of(a[2], a[3], a[4]).subList(0, a[1])));
                return a[1];
            case "append":
                List<Integer> other = tallies.get(a[1]);
                if (row == null || other == null) {
                    return -11;
                }
                if (row.size() + other.size() > 8) {
                    return -13;
                }
                row.addAll(List.copyOf(other));
                return row.size();
            case "reckon":
                return reckoned(row, a[1]);
            case "pop":
                return row == null ? -11 : row.isEmpty() ? -12 : 50000 + row.remove(row.size() - 1);
            case "each":
                return eachOf(row, a[1]);
            default:
                tallies.set(a[0], null);
                return row == null ? -11 : row.size();
        }
    }

    private static int reckoned(List<Integer> row, int what) {
        if (what < 0 || what > 3) {
            return -3;
        }
        if (row == null) {
            return -11;
        }
        if (row.isEmpty() && (what == 1 || what == 2)) {
            return -12;
        }
        int sum = 0;
        int swing = 0;
        for (int i = 0; i < row.size(); i++) {
            sum += row.get(i);
            swing += (i % 2 == 0 ? 1 : -1) * (i + 1) * row.get(i);
        }
        List<Integer> sorted = row.stream().sorted().toList();
        switch (what) {
            case 0:
                return 50000 + sum;
            case 1:
                return 50000 + sorted.get(sorted.size() - 1);
            case 2:
                return 50000 + sorted.get(0);
            default:
                return 50000 + swing;
        }
    }

    private static int eachOf(List<Integer> row, int what) {
        if (what < 0 || what > 2) {
            return -3;
        }
        if (row == null) {
            return -11;
        }
        List<Integer> were = List.copyOf(row);
        for (int i = 0; i < row.size(); i++) {
            int sum = were.subList(0, i + 1).stream().mapToInt(Integer::intValue).sum();
            row.set(i, what == 0 ? -were.get(i) : what == 1 ? held(2 * were.get(i)) : held(sum));
        }
        return row.size();
    }
}
