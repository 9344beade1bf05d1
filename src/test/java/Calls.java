/** The calls of the document by their names. */
final class Calls {
    static final String[] NAMES = {"tray", "point", "solid", "grow", "count", "corner", "edge", "face", "in", "side", "volume",
        "middle", "far", "width", "sum", "apart", "near", "same", "move", "mirror", "turn", "copy", "undo"};

    private Calls() {
    }

    /** A boolean counts 1 or 0; numbers beyond those that the call takes are left alone. */
    static long ask(HullFoundry f, String name, int[] v) {
        switch (name) {
            case "tray": return f.tray(v[0], v[1]) ? 1 : 0;
            case "point": return f.point(v[0], v[1], v[2], v[3], v[4]) ? 1 : 0;
            case "solid": return f.solid(v[0], v[1]);
            case "grow": return f.grow(v[0], v[1], v[2], v[3]);
            case "count": return f.count(v[0], v[1]);
            case "corner": return f.corner(v[0], v[1], v[2]);
            case "edge": return f.edge(v[0], v[1], v[2]);
            case "face": return f.face(v[0], v[1], v[2]);
            case "in": return f.in(v[0], v[1], v[2], v[3], v[4]);
            case "side": return f.side(v[0], v[1], v[2], v[3], v[4]);
            case "volume": return f.volume(v[0]);
            case "middle": return f.middle(v[0], v[1], v[2]);
            case "far": return f.far(v[0], v[1]);
            case "width": return f.width(v[0], v[1]);
            case "sum": return f.sum(v[0], v[1], v[2]);
            case "apart": return f.apart(v[0], v[1]);
            case "near": return f.near(v[0], v[1], v[2]);
            case "same": return f.same(v[0], v[1]);
            case "move": return f.move(v[0], v[1], v[2], v[3]) ? 1 : 0;
            case "mirror": return f.mirror(v[0], v[1]) ? 1 : 0;
            case "turn": return f.turn(v[0], v[1]) ? 1 : 0;
            case "copy": return f.copy(v[0], v[1]) ? 1 : 0;
            case "undo": return f.undo();
            default: throw new IllegalStateException(name);
        }
    }
}
