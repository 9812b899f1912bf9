/** Promise 29: the latest patch is taken back. */
public final class BackTest {
    public static void main(String[] args) {
        whenItCan();
        kindsAndStatics();
        creatures();
        lostAndFirst();
        madeAndDropped();
        droppedAndNew();
        generationsGoOn();
        kindsThatStayed();
        creaturesApart();
        Checks.endWithCode();
    }

    private static void kindsThatStayed() {
        PondHouse h = Checks.house("kind a { static s = 1; act g { s = s + 1; give s; } } kind b { }");
        Checks.create(h, "a");
        Checks.applies(h, "change b { }");
        Checks.act(h, 0, "g", 0);
        Checks.yes("back", h.back());
        Checks.same("g", Checks.act(h, 0, "g", 0), 0);
        Checks.same("gave", h.told(0), 3);
        Checks.same("s", fixed(h, "a", "s"), 3);
    }

    /** What comes for one creature is nothing to the next. */
    private static void creaturesApart() {
        PondHouse h = Checks.house("kind a { field x = 1; } kind b { field x = 2; field q = 3; }");
        Checks.create(h, "a");
        Checks.create(h, "b");
        Checks.applies(h, "change a { rename x q; } change b { drop x; }");
        h.put(0, Checks.n(h, "q"), 10);
        h.put(1, Checks.n(h, "q"), 30);
        Checks.yes("back", h.back());
        Checks.same("x of a", Checks.value(h, 0, "x"), 10);
        Checks.same("x of b", Checks.value(h, 1, "x"), 2);
        Checks.same("q of b", Checks.value(h, 1, "q"), 30);
    }

    private static void whenItCan() {
        PondHouse h = Checks.house("kind a { field x = 1; act g { rest; rest; rest; } }");
        Checks.create(h, "a");
        Checks.no("none applied", h.back());
        int k = Checks.patch(h, "change a { field y = 2; }");
        int m = Checks.patch(h, "change a { field y = 2; }");
        Checks.yes("apply", h.apply(k));
        Checks.no("one waits", h.back());
        h.beat();
        Checks.yes("back", h.back());
        Checks.same("taken back", h.applied(k), 5);
        Checks.no("already taken back", h.back());
        Checks.same("applied again", Checks.make(h, k), 2);
        Checks.same("refused", Checks.make(h, m), 4);
        Checks.yes("apply", h.apply(m));
        Checks.no("one waits", h.back());
        h.beat();
        Checks.yes("the one that is applied", h.back());
        Checks.same("taken back", h.applied(k), 5);
        Checks.same("refused", h.applied(m), 4);
        Checks.same("both", Checks.make(h, m), 2);
        Checks.applies(h, "change a { field z = 3; }");
        Checks.yes("the latest", h.back());
        Checks.no("the one ahead of it stays", h.back());
        Checks.same("applied", h.applied(m), 2);
        Checks.yes("y", Checks.has(h, 0, "y"));
        Checks.pond(h, "kind a { }");
        Checks.no("a new pond has none", h.back());
        int p = Checks.patch(h, "check a 1;");
        Checks.same("applied", Checks.make(h, p), 2);
        Checks.pond(h, "kind b { }");
        Checks.no("it is gone", h.back());
        Checks.same("kinds stay", h.kind(0, 0), Checks.n(h, "b"));
    }

    private static void kindsAndStatics() {
        PondHouse h = Checks.house("kind a { field x = 1; static s = 1; static t = 2; act g { s = s + 10; } act h { t = t + 10; } } kind b under a { static q = 5; act f { q = q + 1; } } kind c { field z = 1; }");
        Checks.create(h, "b");
        Checks.act(h, 0, "g", 0);
        Checks.act(h, 0, "f", 0);
        Checks.act(h, 0, "h", 0);
        Checks.applies(h, "change a { drop t; static u = 7; field y = 2; act k { s = s + 100; u = 8; } drop g; } move b under c; kind d { } drop d;"
                + " change b { act f { q = q + 50; } } drop a;");
        Checks.same("kinds", h.kinds(), 2);
        Checks.act(h, 0, "f", 0);
        Checks.yes("back", h.back());
        Checks.same("kinds", h.kinds(), 3);
        Checks.same("above b", h.kind(1, 1), Checks.n(h, "a"));
        Checks.same("generation", h.kind(1, 2), 0);
        Checks.same("acts", h.kind(0, 5), 2);
        Checks.same("q is of a kind that is there now", fixed(h, "b", "q"), 56);
        Checks.same("s has what it had", fixed(h, "a", "s"), 11);
        Checks.same("t has what it had", fixed(h, "a", "t"), 12);
        Checks.applies(h, "change a { drop t; static u = 7; act k { s = s + 100; u = 8; } }");
        Checks.act(h, 0, "k", 0);
        Checks.yes("back", h.back());
        Checks.same("s is there now", fixed(h, "a", "s"), 111);
        Checks.same("t was not", fixed(h, "a", "t"), 12);
        Checks.same("u is not", fixed(h, "a", "u"), 0);
    }

    private static int fixed(PondHouse h, String kind, String name) {
        return h.fixed(Checks.n(h, kind), Checks.n(h, name));
    }

    private static void creatures() {
        PondHouse h = Checks.house("kind a { field x = 1; field y = 2; } kind b under a { field z = 3; } kind c { field x = 4; field w = 5; }");
        int b = Checks.create(h, "b");
        int c = Checks.create(h, "c");
        Checks.applies(h, "change a { rename x q; rename y x; field new = 6; carry q x * 100; } change b { drop z; }");
        int late = Checks.create(h, "b");
        h.put(b, Checks.n(h, "x"), 22);
        h.put(late, Checks.n(h, "q"), 33);
        h.put(c, Checks.n(h, "w"), 55);
        Checks.same("q", Checks.value(h, b, "q"), 100);
        Checks.yes("back", h.back());
        Checks.same("x has the value that q has now", Checks.value(h, b, "x"), 100);
        Checks.same("y", Checks.value(h, b, "y"), 22);
        Checks.same("z from what was lost", Checks.value(h, b, "z"), 3);
        Checks.same("new is gone, not lost", Checks.value(h, b, "new"), 0);
        Checks.same("q is gone, not lost", Checks.value(h, b, "q"), 0);
        Checks.same("one made since: x", Checks.value(h, late, "x"), 33);
        Checks.same("one made since: y", Checks.value(h, late, "y"), 2);
        Checks.same("one made since: z has the first value", Checks.value(h, late, "z"), 3);
        Checks.same("of another kind", Checks.value(h, c, "w"), 55);
        // a move: by name from another kind, and back
        h.put(b, Checks.n(h, "y"), 77);
        Checks.applies(h, "move b under c;");
        Checks.same("x", Checks.value(h, b, "x"), 100);
        h.put(b, Checks.n(h, "x"), 101);
        h.put(b, Checks.n(h, "w"), 102);
        int since = Checks.create(h, "b");
        h.put(since, Checks.n(h, "x"), 9);
        Checks.yes("back", h.back());
        Checks.same("x", Checks.value(h, b, "x"), 101);
        Checks.same("y", Checks.value(h, b, "y"), 77);
        Checks.same("w", Checks.value(h, b, "w"), 0);
        Checks.same("x of one made since", Checks.value(h, since, "x"), 9);
        Checks.same("y of one made since", Checks.value(h, since, "y"), 2);
    }

    private static void lostAndFirst() {
        PondHouse h = Checks.house("kind a { field x = 1; act g { x = x + 1; } }");
        int c = Checks.create(h, "a");
        h.put(c, Checks.n(h, "x"), 10);
        Checks.applies(h, "change a { drop x; field y = 5; }");
        int d = Checks.create(h, "a");
        Checks.act(h, c, "g", 0);
        h.put(c, Checks.n(h, "y"), 6);
        Checks.yes("back", h.back());
        Checks.same("the value that is lost now", Checks.value(h, c, "x"), 11);
        Checks.same("the first value", Checks.value(h, d, "x"), 1);
        Checks.same("y is not lost", Checks.value(h, c, "y"), 0);
        // what was lost ahead of the patch stays
        Checks.applies(h, "change a { drop x; }");
        Checks.applies(h, "change a { field x = 7; }");
        Checks.same("x", Checks.value(h, c, "x"), 7);
        Checks.yes("back", h.back());
        Checks.no("no field", Checks.has(h, c, "x"));
        Checks.same("what was lost", Checks.value(h, c, "x"), 11);
        Checks.same("of the other", Checks.value(h, d, "x"), 1);
        // told anew: nothing comes from the former one
        PondHouse e = Checks.house("kind a { field x = 1; }");
        Checks.create(e, "a");
        e.put(0, Checks.n(e, "x"), 10);
        Checks.applies(e, "change a { drop x; field x = 5; }");
        Checks.create(e, "a");
        e.put(0, Checks.n(e, "x"), 6);
        e.put(1, Checks.n(e, "x"), 8);
        Checks.yes("back", e.back());
        Checks.same("from what is lost", Checks.value(e, 0, "x"), 10);
        Checks.same("the first value", Checks.value(e, 1, "x"), 1);
    }

    private static void madeAndDropped() {
        PondHouse h = Checks.house("kind a { field x = 1; } kind b { field y = 2; }");
        int a = Checks.create(h, "a");
        int b = Checks.create(h, "b");
        Checks.applies(h, "drop b; kind c under a { field z = 3; }");
        int c = Checks.create(h, "c");
        Checks.same("c lives", h.kindOf(c), Checks.n(h, "c"));
        h.put(a, Checks.n(h, "x"), 4);
        Checks.yes("back", h.back());
        Checks.same("b has ended", h.kindOf(b), -1);
        Checks.same("c ends", h.kindOf(c), -1);
        Checks.same("a lives", Checks.value(h, a, "x"), 4);
        Checks.same("kinds", h.kinds(), 2);
        Checks.same("a new b", h.create(Checks.n(h, "b")), 3);
        Checks.same("no c", h.create(Checks.n(h, "c")), -1);
        Checks.same("its generation", h.generation(a), 0);
    }

    private static void droppedAndNew() {
        PondHouse h = Checks.house("kind a { field x = 1; field w = 2; }");
        int a = Checks.create(h, "a");
        h.put(a, Checks.n(h, "x"), 10);
        Checks.applies(h, "drop a; kind a { field x = 5; }");
        int late = Checks.create(h, "a");
        Checks.same("x", Checks.value(h, a, "x"), 5);
        h.put(late, Checks.n(h, "x"), 6);
        Checks.yes("back", h.back());
        Checks.same("it lives", h.kindOf(a), Checks.n(h, "a"));
        Checks.same("x from what is lost", Checks.value(h, a, "x"), 10);
        Checks.same("w from what is lost", Checks.value(h, a, "w"), 2);
        Checks.same("x at first", Checks.value(h, late, "x"), 1);
    }

    private static void generationsGoOn() {
        PondHouse h = Checks.house("kind a { field x = 1; act g { give 1; } }");
        Checks.create(h, "a");
        Checks.applies(h, "change a { act g { give 2; } }");
        Checks.applies(h, "change a { act g { give 3; } }");
        Checks.same("generation", h.generation(0), 2);
        Checks.yes("back", h.back());
        Checks.same("generation", h.generation(0), 1);
        Checks.same("g", Checks.act(h, 0, "g", 0), 0);
        Checks.same("gave", h.told(0), 2);
        Checks.applies(h, "change a { act g { give 4; } }");
        Checks.same("generation", h.generation(0), 3);
        Checks.yes("back", h.back());
        Checks.same("generation", h.generation(0), 1);
    }
}
