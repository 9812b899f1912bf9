/** Promises 26 to 28 and part III: patches that wait, are made, refused, given up; the carried. */
public final class PatchesTest {
    public static void main(String[] args) {
        callingFor();
        waiting();
        refusals();
        refusalsInOrder();
        tooMany();
        rulesAndChecks();
        allAsItWas();
        generations();
        orderOfKinds();
        comes();
        comesOfOtherKinds();
        toldAnew();
        rules();
        lost();
        statics();
        acts();
        ending();
        whatIsBehindADroppedOne();
        rulesAreNew();
        Checks.endWithCode();
    }

    private static void whatIsBehindADroppedOne() {
        PondHouse h = Checks.house("kind a { field x = 1; field y = 2; link z; field w = 4; act f { give 1; } act g { give 2; } act h { give 3; } act i { give 4; } }");
        Checks.create(h, "a");
        Checks.applies(h, "change a { drop x; drop f; static n = 5; static m = 6; static k = 7; drop n; drop h; }");
        int c = Checks.create(h, "a");
        Checks.same("y", Checks.value(h, c, "y"), 2);
        Checks.same("z", Checks.value(h, c, "z"), -1);
        Checks.same("w", Checks.value(h, c, "w"), 4);
        Checks.same("m", fixed(h, "a", "m"), 6);
        Checks.same("k", fixed(h, "a", "k"), 7);
        gave(h, c, "g", 2);
        gave(h, c, "i", 4);
        Checks.same("f", Checks.act(h, c, "f", 0), 2);
        Checks.same("h", Checks.act(h, c, "h", 0), 2);
        Checks.applies(h, "change a { rename y q; }");
        Checks.same("q", Checks.value(h, c, "q"), 2);
        Checks.same("z", Checks.value(h, c, "z"), -1);
        Checks.same("y is not lost", Checks.value(h, c, "y"), 0);
    }

    /** In a rule v and last are 0, whatever ran ahead of it; one that failed leaves nothing. */
    private static void rulesAreNew() {
        PondHouse h = Checks.house("kind a { field x = 1; act g { do h; x = v; fail last; } act h { give 8; } }");
        Checks.create(h, "a");
        int k = Checks.patch(h, "change a { carry x 2 * (3 + 1 / x); }");
        h.put(0, Checks.n(h, "x"), 0);
        for (int i = 0; i < 70; i++) {
            Checks.same("it fails", make(h, k), 4);
        }
        Checks.act(h, 0, "g", 7);
        Checks.same("failed with last", h.told(1), 8);
        Checks.applies(h, "change a { carry x 5 + 100 * v + 10 * last; } check a v == 0; check a last == 0;");
        Checks.same("x", Checks.value(h, 0, "x"), 5);
    }

    private static int make(PondHouse h, int k) {
        h.apply(k);
        h.beat();
        return h.applied(k);
    }

    private static void callingFor() {
        PondHouse h = Checks.house("kind a { }");
        Checks.no("none such", h.apply(0));
        Checks.same("first", Checks.patch(h, "change a { }"), 0);
        Checks.same("second", Checks.patch(h, "drop b;"), 1);
        Checks.no("apply(-1)", h.apply(-1));
        Checks.no("apply(2)", h.apply(2));
        Checks.no("apply(6)", h.apply(6));
        Checks.same("not called for", h.applied(0), 0);
        Checks.same("applied(2)", h.applied(2), -1);
        Checks.same("applied(-1)", h.applied(-1), -1);
        Checks.yes("apply", h.apply(0));
        Checks.no("one waits", h.apply(1));
        Checks.no("itself waits", h.apply(0));
        Checks.same("waits", h.applied(0), 1);
        Checks.same("not yet made", h.kind(0, 2), 0);
        h.beat();
        Checks.same("applied", h.applied(0), 2);
        Checks.same("made", h.kind(0, 2), 1);
        Checks.same("the other not", h.applied(1), 0);
        h.beat();
        Checks.same("once", h.kind(0, 2), 1);
        Checks.yes("again", h.apply(0));
        Checks.same("waits by the latest time", h.applied(0), 1);
        h.beat();
        Checks.same("made again", h.kind(0, 2), 2);
        Checks.same("refused", Checks.make(h, 1), 4);
        Checks.same("the first one stays", h.applied(0), 2);
        Checks.same("refusal(3)", h.refusal(3), -1);
        Checks.same("refusal(-1)", h.refusal(-1), -1);
        PondHouse empty = new PondHouse();
        Checks.same("a patch of no pond", Checks.patch(empty, "kind a { field x = 1; } kind b under a { }"), 0);
        Checks.same("made", Checks.make(empty, 0), 2);
        Checks.same("kinds", empty.kinds(), 2);
        Checks.same("generation", empty.kind(1, 2), 1);
    }

    private static void waiting() {
        PondHouse h = Checks.house("kind a { act g { rest; rest; rest; rest; rest; rest; rest; rest; rest; rest; rest; rest; rest; rest; rest; rest; rest; rest; rest; rest; } act f { rest; } }");
        Checks.create(h, "a");
        h.begin(0, Checks.n(h, "g"), 0);
        h.begin(0, Checks.n(h, "f"), 0);
        int k = Checks.patch(h, "change a { }");
        h.forbid(0, true);
        h.apply(k);
        for (int i = 1; i <= 7; i++) {
            h.beat();
            Checks.same("waits", h.applied(k), 1);
        }
        h.beat();
        Checks.same("given up with the eighth", h.applied(k), 3);
        Checks.same("not made", h.kind(0, 2), 0);
        Checks.yes("another time", h.apply(k));
        for (int i = 1; i <= 7; i++) {
            h.beat();
            Checks.same("waits from the first beat on", h.applied(k), 1);
        }
        Checks.no("back while one waits", h.back());
        h.forbid(0, false);
        h.beat();
        Checks.same("made", h.applied(k), 2);
        // a long act that is over forbids no more, in the beat of its end
        Checks.same("begin", h.begin(0, Checks.n(h, "f"), 0), 1);
        h.forbid(1, true);
        h.apply(k);
        h.beat();
        Checks.same("waits", h.applied(k), 1);
        h.beat();
        Checks.same("made", h.applied(k), 2);
        Checks.same("it told that it forbids", h.under(1, 4), 1);
        Checks.same("begin", h.begin(0, Checks.n(h, "f"), 0), 1);
        Checks.same("at first not", h.under(1, 4), 0);
    }

    private static final String POND = "kind a { field x = 1; field y = 2; static s = 3; act f { } }"
            + " kind b under a { field z = 4; link l; act f { } act g { } } kind c under b { field u = 5; } kind d { field x = 6; field z = 7; }";

    private static void refused(String text, int why, int change) {
        PondHouse h = Checks.house(POND);
        Checks.create(h, "c");
        Checks.refuses(h, text, why, change, -1);
        Checks.same("all is as it was", h.kinds(), 4);
        Checks.same("the generation, too", h.kind(0, 2) + h.kind(1, 2) + h.kind(2, 2) + h.kind(3, 2), 0);
    }

    private static void refusals() {
        refused("change q { }", 1, 0);
        refused("kind q under r { }", 1, 0);
        refused("drop q;", 1, 0);
        refused("move q;", 1, 0);
        refused("move q under a;", 1, 0);
        refused("move d under q;", 1, 0);
        refused("check q 1;", 1, 0);
        refused("kind q under q { }", 1, 0);
        refused("kind a { }", 2, 0);
        refused("change a { field x = 1; }", 3, 0);
        refused("change a { static s = 1; }", 3, 0);
        refused("change a { static x = 1; }", 3, 0);
        refused("change a { link s; }", 3, 0);
        refused("change a { rename x y; }", 3, 0);
        refused("change a { rename x s; }", 3, 0);
        refused("change a { rename x x; }", 3, 0);
        refused("kind q { field x = 1; static x = 2; }", 3, 0);
        refused("change a { drop q; }", 4, 0);
        refused("change b { drop x; }", 4, 0);
        refused("change c { drop g; }", 4, 0);
        refused("change a { rename q r; }", 4, 0);
        refused("change a { rename s r; }", 4, 0);
        refused("change a { rename f r; }", 4, 0);
        refused("change b { rename x r; }", 4, 0);
        refused("change a { rename q x; }", 4, 0);
        refused("move a under a;", 5, 0);
        refused("move a under b;", 5, 0);
        refused("move a under c;", 5, 0);
        refused("drop a;", 6, 0);
        refused("drop b;", 6, 0);
        refused("change b { field x = 1; }", 8, -1);
        refused("change c { static x = 1; }", 8, -1);
        refused("change c { link s; }", 8, -1);
        refused("change c { static s = 4; }", 8, -1);
        refused("change a { field u = 1; }", 8, -1);
        refused("change a { rename x u; }", 8, -1);
        refused("move d under a;", 8, -1);
        refused("kind q under c { link x; }", 8, -1);
    }

    private static void refusalsInOrder() {
        refused("change a { } drop q; drop a;", 1, 1);
        refused("check a 1; change a { } kind q { } move a under b; kind q { }", 5, 3);
        refused("change a { drop x; drop x; }", 4, 0);
        refused("change a { field x = 1; drop q; }", 3, 0);
        refused("change a { drop q; field x = 1; }", 4, 0);
        refused("kind a under q { field x = 1; field x = 2; }", 2, 0);
        refused("kind q under r { field x = 1; field x = 2; }", 1, 0);
        // what stands at once is asked: a kind is there only behind its change
        refused("check q 1; kind q { }", 1, 0);
        refused("change q { } kind q { }", 1, 0);
        refused("drop d; change d { }", 1, 1);
        refused("move d under a; change q { }", 1, 1);
        PondHouse h = Checks.house(POND);
        Checks.applies(h, "drop c; drop b; drop a;");
        Checks.same("kinds", h.kinds(), 1);
        h = Checks.house(POND);
        Checks.applies(h, "change a { rename x q; rename q r; rename y x; }");
        h = Checks.house(POND);
        Checks.applies(h, "move b; move a under c;");
        Checks.same("above a", h.kind(0, 1), Checks.n(h, "c"));
        h = Checks.house(POND);
        Checks.applies(h, "move d under a; change d { drop x; drop z; }");
        h = Checks.house(POND);
        // a member dropped: a field or static, else an act
        Checks.applies(h, "change a { act x { } }");
        Checks.same("acts", h.kind(0, 5), 2);
        Checks.applies(h, "change a { drop x; }");
        Checks.same("fields", h.kind(0, 3), 1);
        Checks.same("acts", h.kind(0, 5), 2);
        Checks.applies(h, "change a { drop x; drop s; }");
        Checks.same("acts", h.kind(0, 5), 1);
        Checks.same("statics", h.kind(0, 4), 0);
        Checks.refuses(h, "change a { drop x; }", 4, 0, -1);
        // a check of a kind that is dropped later asks nobody
        int d = Checks.create(h, "d");
        Checks.applies(h, "check d 0; drop d;");
        Checks.same("ended", h.kindOf(d), -1);
        // the latest refusal stays told
        Checks.same("refusal", h.refusal(0), 4);
        Checks.pond(h, "kind a { }");
        Checks.same("refusal", h.refusal(0), 4);
    }

    private static final String FULL = "kind a { field fa = 1; field fb = 1; field fc = 1; field fd = 1; field fe = 1; field ff = 1; link fg; link fh;"
            + " static sa = 1; static sb = 1; static sc = 1; static sd = 1;"
            + " act a { } act b { } act c { } act d { } act e { } act f { } act g { } act h { } }";

    private static void tooMany() {
        PondHouse h = Checks.house(FULL);
        Checks.refuses(h, "change a { field new = 1; }", 7, 0, -1);
        Checks.refuses(h, "kind b { } change a { link new; }", 7, 1, -1);
        Checks.refuses(h, "change a { static new = 1; }", 7, 0, -1);
        Checks.refuses(h, "change a { act new { } }", 7, 0, -1);
        Checks.refuses(h, "change a { field fa = 1; }", 3, 0, -1);
        Checks.refuses(h, "change a { static fa = 1; }", 3, 0, -1);
        h = Checks.house(FULL);
        Checks.applies(h, "change a { act a { } drop fb; field new = 1; drop sc; static fb = 2; drop h; act new { } }");
        Checks.same("fields", h.kind(0, 3), 8);
        Checks.same("statics", h.kind(0, 4), 4);
        Checks.same("acts", h.kind(0, 5), 8);
        h = Checks.house(FULL);
        Checks.refuses(h, "change a { drop fb; link new; link newer; }", 7, 0, -1);
        Checks.refuses(h, "kind b under a { field n = 1; static m = 1; act o { } static p = 1; static q = 1; static r = 1; static s = 1; }", 7, 0, -1);
        Checks.applies(h, "kind b under a { field n = 1; static m = 1; act o { } }");
        h = Checks.house(FULL);
        Checks.applies(h, "kind b { } kind c { } kind d { } kind e { } kind f { } kind g { } kind h { } kind fa { } kind fb { } kind fc { } kind fd { }");
        Checks.same("kinds", h.kinds(), 12);
        Checks.refuses(h, "kind new { }", 7, 0, -1);
        Checks.refuses(h, "kind b { }", 2, 0, -1);
        Checks.refuses(h, "kind new under sx { }", 7, 0, -1);
        Checks.refuses(h, "kind new { } drop fd;", 7, 0, -1);
        Checks.applies(h, "drop fd; kind new { }");
        Checks.same("kinds", h.kinds(), 12);
    }

    /** A house with creatures 0 of a, 1 of c, 2 of d, 3 of b. */
    private static PondHouse fourOf(String pond) {
        PondHouse h = Checks.house(pond);
        for (String kind : "a c d b".split(" ")) {
            Checks.create(h, kind);
        }
        return h;
    }

    private static void refusedOfFour(String text, int why, int change, int creature) {
        Checks.refuses(fourOf(POND), text, why, change, creature);
    }

    private static void rulesAndChecks() {
        int a = 0;
        int c = 1;
        int d = 2;
        int b = 3;
        refusedOfFour("check a 1; check d 0;", 10, 1, d);
        refusedOfFour("check b x - 1;", 10, 0, c);
        refusedOfFour("check a z;", 10, 0, a);
        refusedOfFour("check a 1 / 0;", 10, 0, a);
        refusedOfFour("check d v; check q 1;", 1, 1, -1);
        refusedOfFour("check d v;", 10, 0, d);
        refusedOfFour("check d last;", 10, 0, d);
        refusedOfFour("check d 0; check b 0;", 10, 0, d);
        refusedOfFour("check b 0; check d 0;", 10, 0, c);
        refusedOfFour("change b { carry z 1 / (z - 4); }", 9, 0, c);
        refusedOfFour("kind q { } change a { carry x q; }", 9, 1, a);
        refusedOfFour("change b { carry x q; } change c { carry x q; }", 9, 1, c);
        // the fields of the kind farthest above first, of one in their order
        refusedOfFour("change c { carry u q; } change b { carry l q; } change b { carry z q; }", 9, 2, c);
        refusedOfFour("change c { carry u q; } change b { carry l q; } change c { carry x q; }", 9, 2, c);
        refusedOfFour("change c { carry u q; carry l 1; } change b { carry l q; drop z; field z = 0; } change b { carry z q; }", 9, 1, c);
        refusedOfFour("change d { field r = 0; } check d r;", 10, 1, d);
        refusedOfFour("change d { drop x; static x = 0; } check d x;", 10, 1, d);
        refusedOfFour("kind n under d { } move b under n; change b { drop z; } change a { rename x p; } check d z - 7;", 10, 4, c);
        // a rule is of what was, of a creature that lives on; checks are behind all rules
        refusedOfFour("change d { carry x 1 / 0; } check a 0;", 9, 0, d);
        refusedOfFour("check a 0; change d { carry x 1 / 0; }", 9, 1, d);
        PondHouse h = fourOf(POND);
        Checks.applies(h, "check c u; check b z; check a s + x + y; check d x;");
        // rules of fields that a creature does not have are not worked out
        Checks.applies(h, "change a { carry q r; carry w 1; }");
        Checks.applies(h, "drop d; change c { carry x 1; }");
        h = fourOf(POND);
        h.put(b, Checks.n(h, "z"), 0);
        Checks.refuses(h, "check b z;", 10, 0, b);
        Checks.refuses(h, "change b { carry z 1 / z; }", 9, 0, b);
        // checks are of what the creatures are then; rules of what they were
        Checks.applies(h, "change d { rename x w; field x = 0; carry x x + z; } check d w == 6; check d x == 13;");
        Checks.applies(h, "change d { drop w; } check d w == 6;");
        Checks.applies(h, "kind n under d { } check n 0;");
    }

    private static void allAsItWas() {
        PondHouse h = Checks.house("kind a { field x = 1; static s = 5; act g { give x; } } kind b under a { field y = 2; } kind c { field z = 0; }");
        int b = Checks.create(h, "b");
        int c = Checks.create(h, "c");
        h.put(b, Checks.n(h, "x"), 11);
        Checks.applies(h, "change c { }");
        Checks.refuses(h, "kind n { } change a { rename x w; drop s; static t = 1; act g { give 0; } act f { } } move b; drop c; kind c { } check c 0;", 10, 5, c);
        Checks.same("kinds", h.kinds(), 3);
        Checks.same("order", h.kind(2, 0), Checks.n(h, "c"));
        Checks.same("above", h.kind(1, 1), Checks.n(h, "a"));
        Checks.same("generation", h.kind(1, 2), 0);
        Checks.same("generation", h.kind(2, 2), 1);
        Checks.same("acts", h.kind(0, 5), 1);
        Checks.same("x", Checks.value(h, b, "x"), 11);
        Checks.same("w", Checks.value(h, b, "w"), 0);
        Checks.same("s", h.fixed(Checks.n(h, "b"), Checks.n(h, "s")), 5);
        Checks.same("t", h.fixed(Checks.n(h, "a"), Checks.n(h, "t")), 0);
        Checks.same("g", Checks.act(h, b, "g", 0), 0);
        Checks.same("gave", h.told(0), 11);
        Checks.yes("z", Checks.has(h, c, "z"));
        Checks.refuses(h, "change b { drop y; carry x 5; } drop c; check a 0;", 10, 2, b);
        Checks.same("x", Checks.value(h, b, "x"), 11);
        Checks.yes("y", Checks.has(h, b, "y"));
        Checks.same("c lives", h.kindOf(c), Checks.n(h, "c"));
        Checks.yes("the one applied is taken back still", h.back());
        Checks.same("generation", h.kind(2, 2), 0);
    }

    private static void generations() {
        PondHouse h = Checks.house("kind a { } kind b under a { } kind c under b { } kind d { } kind e { field w = 1; }");
        int c = Checks.create(h, "c");
        generations(h, "check a 1;", 0, 0, 0, 0, 0);
        generations(h, "change b { }", 0, 2, 2, 0, 0);
        generations(h, "move d;", 0, 2, 2, 3, 0);
        generations(h, "change a { }", 4, 4, 4, 3, 0);
        Checks.same("of a creature", h.generation(c), 4);
        generations(h, "move b under e;", 4, 5, 5, 3, 0);
        generations(h, "kind f under c { } drop f;", 4, 5, 5, 3, 0);
        h = Checks.house("kind a { } kind b under a { } kind c under b { } kind d { } kind e { field w = 1; }");
        c = Checks.create(h, "c");
        Checks.refuses(h, "change a { } check c 0;", 10, 1, c);
        generations(h, "kind f under d { } change d { }", 0, 0, 0, 1, 0, 1);
        generations(h, "move c under a; change e { }", 0, 0, 2, 1, 2, 1);
        generations(h, "drop b; kind b { } move d under a;", 0, 2, 3, 2, 3, 3);
    }

    private static void generations(PondHouse h, String text, int... due) {
        Checks.applies(h, text);
        for (int i = 0; i < due.length; i++) {
            Checks.same("generation of " + i + " behind " + text, h.kind(i, 2), due[i]);
        }
    }

    private static void orderOfKinds() {
        PondHouse h = Checks.house("kind a { } kind b { } kind c { } kind d { }");
        Checks.applies(h, "kind e { } drop b; move a under d; kind f { } drop d2;".replace(" drop d2;", ""));
        order(h, "a c d e f");
        Checks.applies(h, "drop c; kind c { } move d under f;");
        order(h, "a d e f c");
        Checks.yes("back", h.back());
        order(h, "a c d e f");
        Checks.same("above d", h.kind(2, 1), -1);
    }

    private static void order(PondHouse h, String due) {
        String[] names = due.split(" ");
        Checks.same("kinds", h.kinds(), names.length);
        for (int i = 0; i < names.length; i++) {
            Checks.same("kind " + i, h.kind(i, 0), Checks.n(h, names[i]));
        }
    }

    private static void comes() {
        PondHouse h = Checks.house("kind a { field x = 1; field y = 2; link l; } kind b under a { field z = 3; }");
        int b = Checks.create(h, "b");
        put(h, b, "x", 10);
        put(h, b, "y", 20);
        put(h, b, "l", 5);
        put(h, b, "z", 30);
        Checks.applies(h, "change a { rename x q; rename y x; rename q y; rename l m; rename m n; field new = 4; }");
        Checks.same("y was x", Checks.value(h, b, "y"), 10);
        Checks.same("x was y", Checks.value(h, b, "x"), 20);
        Checks.same("q is nothing", Checks.value(h, b, "q"), 0);
        Checks.same("n was l", Checks.value(h, b, "n"), 5);
        Checks.same("l is not lost", Checks.value(h, b, "l"), 0);
        Checks.same("z stays", Checks.value(h, b, "z"), 30);
        Checks.same("new", Checks.value(h, b, "new"), 4);
        Checks.same("fields", h.kind(0, 3), 4);
    }

    private static void put(PondHouse h, int c, String name, int v) {
        Checks.yes("put " + name, h.put(c, Checks.n(h, name), v));
    }

    private static void comesOfOtherKinds() {
        String pond = "kind a { field x = 1; field y = 2; } kind b under a { field z = 3; } kind c { field x = 5; field w = 6; }";
        PondHouse h = moved(pond, "move b under c;");
        Checks.same("x by its name", Checks.value(h, 0, "x"), 10);
        Checks.same("w is new to it", Checks.value(h, 0, "w"), 6);
        Checks.same("y is lost", Checks.value(h, 0, "y"), 20);
        Checks.no("y is no field", Checks.has(h, 0, "y"));
        Checks.yes("back", h.back());
        Checks.same("x", Checks.value(h, 0, "x"), 10);
        Checks.same("y", Checks.value(h, 0, "y"), 20);
        Checks.same("w", Checks.value(h, 0, "w"), 0);
        // the other kind has it no more: dropped, renamed, told anew, gone
        h = moved(pond, "change a { drop x; } move b under c;");
        Checks.same("x", Checks.value(h, 0, "x"), 5);
        h = moved(pond, "change a { rename x q; } move b under c;");
        Checks.same("x", Checks.value(h, 0, "x"), 5);
        h = moved(pond, "change a { drop x; field x = 9; } move b under c;");
        Checks.same("x", Checks.value(h, 0, "x"), 5);
        h = moved(pond, "change a { rename x q; rename y x; } move b under c;");
        Checks.same("x", Checks.value(h, 0, "x"), 5);
        h = moved(pond, "move b under c; drop a;");
        Checks.same("x", Checks.value(h, 0, "x"), 5);
        Checks.applies(h, "change c { drop x; }");
        Checks.same("it was carried, then lost", Checks.value(h, 0, "x"), 5);
        // by its new name
        h = moved(pond, "move b under c; change c { rename w y; }");
        Checks.same("x", Checks.value(h, 0, "x"), 10);
        Checks.same("y", Checks.value(h, 0, "y"), 20);
        h = moved(pond, "move b under c; change c { drop x; rename w x; }");
        Checks.same("x", Checks.value(h, 0, "x"), 10);
        h = moved(pond, "move b under c; change c { rename x q; }");
        Checks.same("q", Checks.value(h, 0, "q"), 5);
        Checks.same("x is lost", Checks.value(h, 0, "x"), 10);
        // the field of its own kind is the first to come
        h = moved(pond, "move b; change b { rename z y; }");
        Checks.same("y was z", Checks.value(h, 0, "y"), 30);
        Checks.same("z is not lost", Checks.value(h, 0, "z"), 0);
        Checks.applies(h, "change b { drop y; }");
        Checks.same("the latest y", Checks.value(h, 0, "y"), 30);
        h = moved(pond, "kind d { field x = 8; } move b under d;");
        Checks.same("x of a new kind", Checks.value(h, 0, "x"), 10);
        h = moved(pond, "move b; change b { field x = 8; }");
        Checks.same("x told anew where its kind was moved away", Checks.value(h, 0, "x"), 10);
    }

    /** A creature of b with x 10, y 20, z 30, carried by this patch. */
    private static PondHouse moved(String pond, String text) {
        PondHouse h = Checks.house(pond);
        Checks.create(h, "b");
        put(h, 0, "x", 10);
        put(h, 0, "y", 20);
        put(h, 0, "z", 30);
        Checks.applies(h, text);
        return h;
    }

    private static void toldAnew() {
        String pond = "kind a { field x = 1; field y = 2; } kind b under a { field z = 3; }";
        PondHouse h = moved(pond, "change a { drop x; field x = 7; }");
        Checks.same("x", Checks.value(h, 0, "x"), 7);
        Checks.applies(h, "change a { rename x w; }");
        Checks.same("the former x is lost", Checks.value(h, 0, "x"), 10);
        Checks.same("w", Checks.value(h, 0, "w"), 7);
        h = moved(pond, "change a { rename x q; field x = 7; }");
        Checks.same("x", Checks.value(h, 0, "x"), 7);
        Checks.same("q", Checks.value(h, 0, "q"), 10);
        // down to the kind under it
        h = moved(pond, "change a { drop x; } change b { field x = 7; }");
        Checks.same("x", Checks.value(h, 0, "x"), 7);
        // a kind dropped and new in one patch is there, with fields of its own
        h = moved(pond, "drop b; kind b under a { field z = 9; }");
        Checks.same("it lives", h.kindOf(0), Checks.n(h, "b"));
        Checks.same("z", Checks.value(h, 0, "z"), 9);
        Checks.same("x", Checks.value(h, 0, "x"), 10);
        Checks.applies(h, "change b { drop z; } change b { field q = 1; }");
        Checks.same("z is the latest lost", Checks.value(h, 0, "z"), 9);
        h = moved(pond, "drop b; kind b { field z = 9; }");
        Checks.applies(h, "change b { rename z w; }");
        Checks.same("the former z is lost", Checks.value(h, 0, "z"), 30);
        Checks.same("x is lost", Checks.value(h, 0, "x"), 10);
        h = moved(pond, "move b; drop a; kind a { field x = 8; } move b under a;");
        Checks.same("x", Checks.value(h, 0, "x"), 8);
        Checks.same("y is lost", Checks.value(h, 0, "y"), 20);
    }

    private static void rules() {
        String pond = "kind a { field x = 1; field y = 2; static s = 100; } kind b under a { field z = 3; } kind c { field x = 5; static s = 200; }";
        PondHouse h = moved(pond, "change a { carry x y + z; carry y x; }");
        Checks.same("x", Checks.value(h, 0, "x"), 50);
        Checks.same("y of what it was", Checks.value(h, 0, "y"), 10);
        h = moved(pond, "change a { carry x 1; carry x 2; } change b { carry x 3; } change a { carry x 4; }");
        Checks.same("the latest", Checks.value(h, 0, "x"), 4);
        h = moved(pond, "change a { carry x q; } change b { carry x 3; }");
        Checks.same("only the latest is worked out", Checks.value(h, 0, "x"), 3);
        h = moved(pond, "change a { carry z 77; carry s 5; }");
        Checks.same("a rule from above", Checks.value(h, 0, "z"), 77);
        h = moved(pond, "change b { field s2 = 1; }".replace("s2", "t") + " change b { carry t s; drop z; } change a { drop s; static s = 1; }");
        Checks.same("the static as it was", Checks.value(h, 0, "t"), 100);
        h = moved(pond, "change a { rename x w; carry x 5; }");
        Checks.same("a rule for a name that is no field then", Checks.value(h, 0, "w"), 10);
        h = moved(pond, "change a { rename x w; carry w x * 2; }");
        Checks.same("by the new name", Checks.value(h, 0, "w"), 20);
        h = moved(pond, "change a { carry x 1; } move b under c;");
        Checks.same("a rule of a kind that is not above it then", Checks.value(h, 0, "x"), 10);
        h = moved(pond, "change c { carry x s; } move b under c;");
        Checks.same("a rule of a kind that is above it then", Checks.value(h, 0, "x"), 100);
        h = moved(pond, "change a { drop y; } change b { carry z y; }");
        Checks.same("z", Checks.value(h, 0, "z"), 20);
        Checks.same("y is lost, carried or not", Checks.value(h, 0, "y"), 20);
        Checks.applies(h, "change b { carry z y + 1; }");
        Checks.same("a rule of what is lost", Checks.value(h, 0, "z"), 21);
        h = moved(pond, "change b { drop z; field z = 0; carry z z + v + last; }");
        Checks.same("z told anew, by a rule", Checks.value(h, 0, "z"), 30);
        h = moved(pond, "change c { carry x 9; }");
        Checks.same("of another kind", Checks.value(h, 0, "x"), 10);
    }

    private static void lost() {
        PondHouse h = Checks.house("kind a { field x = 1; static s = 5; act g { x = x + 1; give x; } act s { give s; } act p { s = 9; } }");
        int c = Checks.create(h, "a");
        Checks.applies(h, "change a { drop x; }");
        Checks.same("g", Checks.act(h, c, "g", 0), 0);
        Checks.same("an act goes on with what is lost", h.told(0), 2);
        Checks.same("x", Checks.value(h, c, "x"), 2);
        int d = Checks.create(h, "a");
        Checks.same("one without it", Checks.act(h, d, "g", 0), 1);
        Checks.same("fails with 1001", h.told(1), 1001);
        Checks.applies(h, "change a { field x = 7; }");
        Checks.same("a field told anew", Checks.value(h, c, "x"), 7);
        Checks.same("g", Checks.act(h, c, "g", 0), 0);
        Checks.same("gave", h.told(0), 8);
        Checks.applies(h, "change a { drop x; static x = 50; }");
        Checks.same("g", Checks.act(h, c, "g", 0), 0);
        Checks.same("a static is ahead of what is lost", h.told(0), 51);
        Checks.same("value tells what is lost", Checks.value(h, c, "x"), 8);
        Checks.same("fixed", h.fixed(Checks.n(h, "a"), Checks.n(h, "x")), 51);
        Checks.applies(h, "change a { drop x; }");
        Checks.same("g", Checks.act(h, c, "g", 0), 0);
        Checks.same("gave", h.told(0), 9);
        Checks.applies(h, "change a { drop s; }");
        Checks.same("a static is not lost", Checks.act(h, c, "s", 0), 1);
        Checks.same("fails with 1001", h.told(1), 1001);
        Checks.same("so it can't be set", Checks.act(h, c, "p", 0), 1);
    }

    private static void statics() {
        PondHouse h = Checks.house("kind a { static s = 1; static t = 2; field x = 0; act g { s = s + 10; t = t + 20; } } kind b under a { static u = 3; act f { u = 4; } }");
        int b = Checks.create(h, "b");
        Checks.act(h, b, "g", 0);
        Checks.act(h, b, "f", 0);
        Checks.applies(h, "change a { drop s; static s = 70; static new = 6; drop x; static x = 8; }");
        Checks.same("a kind and name that were there", fixed(h, "a", "s"), 11);
        Checks.same("t", fixed(h, "b", "t"), 22);
        Checks.same("new", fixed(h, "b", "new"), 6);
        Checks.same("a field's name", fixed(h, "a", "x"), 8);
        Checks.applies(h, "drop b; kind b { static u = 60; static t = 61; }");
        Checks.same("u", fixed(h, "b", "u"), 4);
        Checks.same("t of another kind", fixed(h, "b", "t"), 61);
        Checks.applies(h, "drop b;");
        Checks.applies(h, "kind b { static u = 60; }");
        Checks.same("it was not there", fixed(h, "b", "u"), 60);
    }

    private static int fixed(PondHouse h, String kind, String name) {
        return h.fixed(Checks.n(h, kind), Checks.n(h, name));
    }

    private static void acts() {
        PondHouse h = Checks.house("kind a { act g { give 1; } act f { give 2; } } kind b under a { act g { give 3; } } kind c { act f { give 4; } }");
        int b = Checks.create(h, "b");
        gave(h, b, "g", 3);
        gave(h, b, "f", 2);
        Checks.applies(h, "change a { act f { give 5; } act g { give 6; } act f { give 7; } act h { give 8; } }");
        gave(h, b, "g", 3);
        gave(h, b, "f", 7);
        gave(h, b, "h", 8);
        Checks.applies(h, "change b { drop g; }");
        gave(h, b, "g", 6);
        Checks.applies(h, "move b under c;");
        gave(h, b, "f", 4);
        Checks.same("no g", Checks.act(h, b, "g", 0), 2);
        Checks.yes("back", h.back());
        gave(h, b, "g", 6);
    }

    private static void gave(PondHouse h, int c, String act, int due) {
        Checks.same("outcome of " + act, Checks.act(h, c, act, 0), 0);
        Checks.same("what gave " + act, h.told(0), due);
    }

    private static void ending() {
        PondHouse h = Checks.house("kind a { field x = 1; } kind b under a { } kind c { }");
        int b = Checks.create(h, "b");
        int a = Checks.create(h, "a");
        int c = Checks.create(h, "c");
        Checks.applies(h, "drop b; drop c;");
        Checks.same("b ended", h.kindOf(b), -1);
        Checks.same("c ended", h.kindOf(c), -1);
        Checks.same("a lives", h.kindOf(a), Checks.n(h, "a"));
        Checks.applies(h, "kind b { }");
        Checks.same("it stays ended", h.kindOf(b), -1);
        Checks.same("the next number", h.create(Checks.n(h, "b")), 3);
    }
}
