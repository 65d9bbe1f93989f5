/** A call of SlotMesh by its name, so that runs of calls can be told as rows and played again. */
final class Calls {
    private Calls() {
    }

    static int answer(SlotMesh x, String name, int... a) {
        switch (name) {
            case "write": return x.write(a[0]);
            case "erase": return x.erase();
            case "fault": return x.fault();
            case "mesh": return x.mesh();
            case "station": return x.station(a[0], a[1]);
            case "slot": return x.slot(a[0], a[1]);
            case "cycle": return x.cycle(a[0]);
            case "frame": return x.frame(a[0]);
            case "give": return x.give(a[0], a[1]);
            case "join": return x.join(a[0], a[1]);
            case "part": return x.part(a[0], a[1]);
            case "undo": return x.undo();
            case "keep": return x.keep(a[0]);
            case "back": return x.back(a[0]);
            case "phase": return x.phase(a[0]);
            case "after": return x.after();
            case "spoils": return x.spoils(a[0], a[1]);
            case "fewest": return x.fewest();
            case "hops": return x.hops(a[0], a[1]);
            case "tally": return x.tally(a[0], a[1], a[2], a[3], a[4]);
            case "append": return x.append(a[0], a[1]);
            case "reckon": return x.reckon(a[0], a[1]);
            case "pop": return x.pop(a[0]);
            case "each": return x.each(a[0], a[1]);
            case "drop": return x.drop(a[0]);
            case "told": return x.told(a[0]);
            default: throw new IllegalArgumentException(name);
        }
    }
}
