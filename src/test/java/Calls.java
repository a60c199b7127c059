/** A call by its name and numbers, so that tests can be written as rows of calls. */
final class Calls {
    private Calls() { }

    static int answer(NightLoom x, String name, int... v) {
        switch (name) {
            case "row": return x.row(v[0], v[1], v[2]);
            case "set": return x.set(v[0], v[1], v[2]);
            case "copy": return x.copy(v[0], v[1], v[2], v[3], v[4]);
            case "drop": return x.drop(v[0]);
            case "feed": return x.feed(v[0]);
            case "loom": return x.loom();
            case "fault": return x.fault();
            case "weave": return x.weave(v[0]);
            case "unpick": return x.unpick(v[0]);
            case "undo": return x.undo();
            case "cloth": return x.cloth(v[0]);
            case "colour": return x.colour(v[0]);
            case "suitor": return x.suitor(v[0], v[1]);
            case "holds": return x.holds(v[0], v[1], v[2]);
            case "longest": return x.longest(v[0]);
            case "soonest": return x.soonest(v[0], v[1], v[2], v[3]);
            case "twice": return x.twice(v[0]);
            case "looks": return x.looks(v[0]);
            case "seen": return x.seen(v[0], v[1], v[2], v[3]);
            case "image": return x.image(v[0]);
            case "restore": return x.restore(v[0]);
            case "kind": return x.kind(v[0]);
            case "as": return x.as(v[0], v[1]);
            case "ask": return x.ask(v[0], v[1]);
            case "trace": return x.trace(v[0]);
            case "count": return x.count(v[0]);
            case "status": return x.status();
            default: throw new IllegalArgumentException(name);
        }
    }
}
