/** Promises 5, 8 to 16 and 30: kinds, creatures, fields, statics, and a pond told again. */
public final class CreaturesTest {
    private static final String POND = "kind a { field x = 3; link l; static s = -4; act f { } act g { } }"
            + " kind b under a { field y = 999999; static t = 6; act f { } }"
            + " kind c under b { field z = 0; } kind d { field x = -8; }";

    public static void main(String[] args) {
        kinds();
        creating();
        values();
        lostNames();
        statics();
        sums();
        pondToldAgain();
        Checks.endWithCode();
    }

    private static void kinds() {
        PondHouse h = new PondHouse();
        Checks.same("pond", Checks.pond(h, POND), 4);
        Checks.same("kinds", h.kinds(), 4);
        kind(h, 0, "a", -1, 2, 1, 2);
        kind(h, 1, "b", Checks.n(h, "a"), 1, 1, 1);
        kind(h, 2, "c", Checks.n(h, "b"), 1, 0, 0);
        kind(h, 3, "d", -1, 1, 0, 0);
        Checks.same("kind(4, 0)", h.kind(4, 0), -1);
        Checks.same("kind(-1, 0)", h.kind(-1, 0), -1);
        Checks.same("kind(0, 6)", h.kind(0, 6), -1);
        Checks.same("kind(0, -1)", h.kind(0, -1), -1);
        Checks.same("kind(12, 2)", h.kind(12, 2), -1);
        Checks.same("kind(max, 2)", h.kind(Integer.MAX_VALUE, 2), -1);
    }

    private static void kind(PondHouse h, int i, String name, int above, int fields, int statics, int acts) {
        Checks.same("name of " + name, h.kind(i, 0), Checks.n(h, name));
        Checks.same("above " + name, h.kind(i, 1), above);
        Checks.same("generation of " + name, h.kind(i, 2), 0);
        Checks.same("fields of " + name, h.kind(i, 3), fields);
        Checks.same("statics of " + name, h.kind(i, 4), statics);
        Checks.same("acts of " + name, h.kind(i, 5), acts);
    }

    private static void creating() {
        PondHouse h = Checks.house(POND);
        Checks.same("no kind of that name", h.create(Checks.n(h, "x")), -1);
        Checks.same("create(-1)", h.create(-1), -1);
        Checks.same("create(99)", h.create(99), -1);
        for (int c = 0; c < 40; c++) {
            Checks.same("create", h.create(Checks.n(h, c % 2 == 0 ? "a" : "d")), c);
        }
        Checks.same("the 41st", h.create(Checks.n(h, "a")), -1);
        Checks.same("kindOf(39)", h.kindOf(39), Checks.n(h, "d"));
        Checks.same("kindOf(38)", h.kindOf(38), Checks.n(h, "a"));
        Checks.same("kindOf(40)", h.kindOf(40), -1);
        Checks.same("kindOf(-1)", h.kindOf(-1), -1);
        Checks.same("generation(39)", h.generation(39), 0);
        Checks.same("generation(40)", h.generation(40), -1);
        Checks.same("generation(-1)", h.generation(-1), -1);
        Checks.applies(h, "drop d; change a { }");
        Checks.same("kindOf an ended one", h.kindOf(39), -1);
        Checks.same("generation of an ended one", h.generation(39), -1);
        Checks.same("generation of a carried one", h.generation(38), 1);
        Checks.same("numbers are not used again", h.create(Checks.n(h, "a")), -1);
    }

    private static void values() {
        PondHouse h = Checks.house(POND);
        int c = Checks.create(h, "c");
        Checks.yes("own", Checks.has(h, c, "z"));
        Checks.yes("of the kind above", Checks.has(h, c, "y"));
        Checks.yes("link", Checks.has(h, c, "l"));
        Checks.no("static", Checks.has(h, c, "s"));
        Checks.no("act", Checks.has(h, c, "f"));
        Checks.no("has(c, -1)", h.has(c, -1));
        Checks.no("has(c, 40)", h.has(c, 40));
        Checks.no("has of none", h.has(1, 0));
        Checks.no("has of -1", h.has(-1, Checks.n(h, "x")));
        Checks.same("x", Checks.value(h, c, "x"), 3);
        Checks.same("y", Checks.value(h, c, "y"), 999999);
        Checks.same("l", Checks.value(h, c, "l"), -1);
        Checks.same("z", Checks.value(h, c, "z"), 0);
        Checks.same("a static is no field", Checks.value(h, c, "s"), 0);
        Checks.same("value(c, -1)", h.value(c, -1), 0);
        Checks.same("value(c, 40)", h.value(c, 40), 0);
        Checks.same("value(40, x)", h.value(40, Checks.n(h, "x")), 0);
        Checks.yes("put", h.put(c, Checks.n(h, "x"), Integer.MIN_VALUE));
        Checks.same("x then", Checks.value(h, c, "x"), Integer.MIN_VALUE);
        Checks.no("put a static", h.put(c, Checks.n(h, "s"), 1));
        Checks.no("put an act", h.put(c, Checks.n(h, "f"), 1));
        Checks.no("put(c, -1)", h.put(c, -1, 1));
        Checks.no("put(c, max)", h.put(c, Integer.MAX_VALUE, 1));
        Checks.no("put of none", h.put(1, Checks.n(h, "x"), 1));
        int b = Checks.create(h, "b");
        Checks.same("another creature has its own", Checks.value(h, b, "x"), 3);
        Checks.no("z of b", Checks.has(h, b, "z"));
    }

    private static void lostNames() {
        PondHouse h = Checks.house(POND);
        int c = Checks.create(h, "c");
        int a = Checks.create(h, "a");
        h.put(c, Checks.n(h, "y"), 12);
        Checks.applies(h, "change b { drop y; }");
        Checks.no("has y", Checks.has(h, c, "y"));
        Checks.same("y is lost", Checks.value(h, c, "y"), 12);
        Checks.no("put what is lost", h.put(c, Checks.n(h, "y"), 1));
        Checks.same("y of one that never had it", Checks.value(h, a, "y"), 0);
        Checks.same("sum of what is lost", h.sum(Checks.n(h, "y")), 0);
        Checks.applies(h, "drop c;");
        Checks.no("has x as it ended", Checks.has(h, c, "x"));
        Checks.same("x as it ended", Checks.value(h, c, "x"), 0);
        Checks.same("y as it ended", Checks.value(h, c, "y"), 0);
        Checks.no("put as it ended", h.put(c, Checks.n(h, "x"), 1));
    }

    private static void statics() {
        PondHouse h = Checks.house("kind a { static s = -4; static q = 1; act g { s = s + 1; t = 5; give s; } }"
                + " kind b under a { static t = 6; } kind c { field s = 1; }");
        Checks.same("own", fixed(h, "a", "s"), -4);
        Checks.same("of the kind above", fixed(h, "b", "s"), -4);
        Checks.same("t of b", fixed(h, "b", "t"), 6);
        Checks.same("t of a", fixed(h, "a", "t"), 0);
        Checks.same("a field is none", fixed(h, "c", "s"), 0);
        Checks.same("no kind", fixed(h, "s", "s"), 0);
        Checks.same("fixed(-1, 0)", h.fixed(-1, 0), 0);
        Checks.same("fixed(a, -1)", h.fixed(Checks.n(h, "a"), -1), 0);
        Checks.same("fixed(a, 40)", h.fixed(Checks.n(h, "a"), 40), 0);
        int b = Checks.create(h, "b");
        Checks.same("g", Checks.act(h, b, "g", 0), 0);
        Checks.same("one value each", fixed(h, "a", "s"), -3);
        Checks.same("one value each", fixed(h, "b", "s"), -3);
        Checks.same("t of b", fixed(h, "b", "t"), 5);
        int a = Checks.create(h, "a");
        Checks.same("g, t is not there", Checks.act(h, a, "g", 0), 1);
        Checks.same("with 1001", h.told(1), 1001);
        Checks.same("what was done stays", fixed(h, "b", "s"), -2);
        Checks.same("the other one", fixed(h, "b", "q"), 1);
    }

    private static int fixed(PondHouse h, String kind, String name) {
        return h.fixed(Checks.n(h, kind), Checks.n(h, name));
    }

    private static void sums() {
        PondHouse h = Checks.house(POND);
        int x = Checks.n(h, "x");
        Checks.same("of none", h.sum(x), 0);
        Checks.create(h, "a");
        Checks.create(h, "c");
        Checks.create(h, "d");
        Checks.same("of three", h.sum(x), 3 + 3 - 8);
        Checks.same("y", h.sum(Checks.n(h, "y")), 999999);
        Checks.same("static", h.sum(Checks.n(h, "s")), 0);
        Checks.same("sum(-1)", h.sum(-1), 0);
        Checks.same("sum(40)", h.sum(40), 0);
        h.put(0, x, Integer.MAX_VALUE);
        h.put(1, x, Integer.MAX_VALUE);
        Checks.same("beyond an int", h.sum(x), 2L * Integer.MAX_VALUE - 8);
        Checks.applies(h, "drop d;");
        Checks.same("the living ones", h.sum(x), 2L * Integer.MAX_VALUE);
    }

    private static void pondToldAgain() {
        PondHouse h = Checks.house("kind a { field x = 1; field w = 4; act g { rest; give 1; } }");
        int c = Checks.create(h, "a");
        Checks.applies(h, "change a { drop x; drop w; field y = 2; }");
        Checks.same("w is lost", Checks.value(h, c, "w"), 4);
        int g = Checks.n(h, "g");
        Checks.same("begin", h.begin(c, g, 0), 0);
        Checks.yes("wake", h.wake(g));
        int k = Checks.patch(h, "drop a;");
        Checks.yes("apply", h.apply(k));
        Checks.same("generation", h.kind(0, 2), 1);
        Checks.same("pond", Checks.pond(h, "kind a { field x = 5; act g { } } kind b { }"), 2);
        Checks.same("kinds", h.kinds(), 2);
        Checks.same("generations begin at 0", h.kind(0, 2), 0);
        Checks.same("no creature", h.kindOf(c), -1);
        Checks.same("no patch", h.applied(0), -1);
        Checks.no("none to take back", h.back());
        Checks.same("no long act", h.under(0, 0), -1);
        Checks.no("none to forbid", h.forbid(0, true));
        Checks.same("a creature from 0 on", h.create(Checks.n(h, "a")), 0);
        Checks.same("no beat with it yet", h.outcome(0), 3);
        Checks.same("nothing is lost", Checks.value(h, 0, "y"), 0);
        Checks.same("nor what was lost of another pond", Checks.value(h, 0, "w"), 0);
        Checks.same("its first value", Checks.value(h, 0, "x"), 5);
        Checks.same("beats go on", h.beat(), 2);
        Checks.same("no act is called", h.outcome(0), 2);
        Checks.applies(h, "change a { }");
        Checks.same("the first patch", h.generation(0), 1);
    }
}
