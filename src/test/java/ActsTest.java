/** Promises 17 and 18: runs of acts, outcomes, what they gave. */
public final class ActsTest {
    public static void main(String[] args) {
        numbers();
        names();
        ifs();
        calls();
        failures();
        order();
        depth();
        fuel();
        outcomes();
        runsAreNew();
        nameZero();
        longestText();
        Checks.endWithCode();
    }

    /** Nothing of a run that failed deep inside, or of one ahead of it, is in the next. */
    private static void runsAreNew() {
        PondHouse h = Checks.house("kind a { field n = 0; act d { do e; n = n + 1; } act e { do f; n = n + 1; } act f { n = n + 1; n = n + 5 * (2 + (3 - 1 / 0)); }"
                + " act g { give last + v; } act k { do g; do l; give last; } act l { give 4; } }");
        int c = Checks.create(h, "a");
        int d = Checks.n(h, "d");
        int g = Checks.n(h, "g");
        int k = Checks.n(h, "k");
        for (int i = 1; i <= 70; i++) {
            Checks.same("d", h.act(c, d, 3), 1);
        }
        Checks.same("told(2)", h.told(2), 4);
        Checks.same("k", h.act(c, k, 9), 0);
        Checks.same("gave", h.told(0), 4);
        Checks.same("took", h.told(2), 5);
        Checks.same("g", h.act(c, g, 5), 0);
        Checks.same("last is 0 at first", h.told(0), 5);
        Checks.same("k", h.act(c, k, 9), 0);
        Checks.same("gave", h.told(0), 4);
        Checks.same("n", Checks.value(h, c, "n"), 70);
    }

    /** The name with the number 0 is as good as any. */
    private static void nameZero() {
        PondHouse h = new PondHouse();
        Checks.same("x is 0", Checks.n(h, "x"), 0);
        Checks.same("pond", Checks.pond(h, "kind a { field x = 4; act g { x = x + 1; give x; } } kind b { static x = 7; act g { x = x + 1; give x; } }"
                + " kind c { act x { give 9; } }"), 3);
        Checks.create(h, "a");
        Checks.create(h, "b");
        Checks.create(h, "c");
        Checks.yes("has", h.has(0, 0));
        Checks.same("first value", h.value(0, 0), 4);
        Checks.yes("put", h.put(0, 0, 5));
        Checks.same("g", Checks.act(h, 0, "g", 0), 0);
        Checks.same("gave", h.told(0), 6);
        Checks.same("value", h.value(0, 0), 6);
        Checks.same("sum", h.sum(0), 6);
        Checks.same("g", Checks.act(h, 1, "g", 0), 0);
        Checks.same("gave", h.told(0), 8);
        Checks.same("fixed", h.fixed(Checks.n(h, "b"), 0), 8);
        Checks.same("x", h.act(2, 0, 0), 0);
        Checks.same("gave", h.told(0), 9);
        Checks.yes("wake", h.wake(0));
        h.beat();
        Checks.same("outcome", h.outcome(2), 0);
        Checks.same("ran", h.ran(0, 1), 0);
        Checks.applies(h, "change a { drop x; }");
        Checks.same("lost", h.value(0, 0), 6);
        Checks.same("g", Checks.act(h, 0, "g", 0), 0);
        Checks.same("gave", h.told(0), 7);
        nameZeroInPatches();
    }

    private static void nameZeroInPatches() {
        PondHouse h = new PondHouse();
        Checks.same("x is 0", Checks.n(h, "x"), 0);
        Checks.same("pond", Checks.pond(h, "kind a { field x = 4; act g { x = x + 1; } } kind b under a { field y = 5; static s = 6; }"
                + " kind c { field z = 7; act g { give x; } }"), 3);
        Checks.create(h, "b");
        Checks.create(h, "c");
        h.put(0, 0, 9);
        Checks.applies(h, "change b { } change c { }");
        Checks.same("x", h.value(0, 0), 9);
        Checks.same("g", Checks.act(h, 1, "g", 0), 1);
        Checks.same("x is not lost where it never was", h.told(1), 1001);
        Checks.yes("back", h.back());
        Checks.same("x", h.value(0, 0), 9);
        Checks.same("y", Checks.value(h, 0, "y"), 5);
    }

    /** A text of a thousand bytes, with as many numbers as it can have. */
    private static void longestText() {
        StringBuilder text = new StringBuilder("kind a{act g{give 0");
        while (text.length() < 995) {
            text.append("+1");
        }
        text.append("; }}");
        Checks.same("bytes", text.length(), 999);
        PondHouse h = Checks.house(text + " ");
        Checks.create(h, "a");
        Checks.same("g", Checks.act(h, 0, "g", 0), 0);
        Checks.same("gave", h.told(0), (995 - 19) / 2);
        Checks.faulty(text.substring(0, 997) + "  ", 1, 999);
    }

    private static void numbers() {
        Checks.gives("{ give 2 + 3 * 4; }", 0, 14);
        Checks.gives("{ give (2 + 3) * 4; }", 0, 20);
        Checks.gives("{ give 10 - 3 - 2; }", 0, 5);
        Checks.gives("{ give 100 / 7 / 2; }", 0, 7);
        Checks.gives("{ give 100 / 7 * 2; }", 0, 28);
        Checks.gives("{ give -7 / 2; }", 0, -3);
        Checks.gives("{ give 7 / -2; }", 0, -3);
        Checks.gives("{ give -2 * 3 + 1; }", 0, -5);
        Checks.gives("{ give - - -4; }", 0, -4);
        Checks.gives("{ give 1 - -1; }", 0, 2);
        Checks.gives("{ give 1 < 2; }", 0, 1);
        Checks.gives("{ give 2 < 2; }", 0, 0);
        Checks.gives("{ give 3 < 2; }", 0, 0);
        Checks.gives("{ give 2 == 2; }", 0, 1);
        Checks.gives("{ give 2 == 3; }", 0, 0);
        Checks.gives("{ give 1 + 1 == 2 * 1; }", 0, 1);
        Checks.gives("{ give (1 < 2) + (3 == 3) * 10; }", 0, 11);
        Checks.gives("{ give v + 1; }", Integer.MAX_VALUE, Integer.MIN_VALUE);
        Checks.gives("{ give v * v; }", 65536, 0);
        Checks.gives("{ give v / -1; }", Integer.MIN_VALUE, Integer.MIN_VALUE);
        Checks.gives("{ give -v; }", Integer.MIN_VALUE, Integer.MIN_VALUE);
        Checks.gives("{ give v - 1; }", Integer.MIN_VALUE, Integer.MAX_VALUE);
        Checks.gives("{ give 1 - (2 - (3 - (4 - (5 - (6 < 7))))); }", 0, 1 - (2 - (3 - (4 - (5 - 1)))));
        Checks.gives("{ }", 5, 0);
        Checks.gives("{ x = 1; }", 5, 0);
        Checks.gives("{ give 1; give 2; }", 5, 1);
    }

    private static void names() {
        Checks.gives("{ give x + s + l; }", 0, 15);
        Checks.gives("{ x = x + v; s = s * 2; l = x; give x + s + l; }", 3, 38);
        Checks.gives("{ give last; }", 3, 0);
        Checks.gives("{ rest; give 4; rest; }", 3, 4);
    }

    private static void ifs() {
        Checks.gives("{ if v { give 1; } give 2; }", 1, 1);
        Checks.gives("{ if v { give 1; } give 2; }", -1, 1);
        Checks.gives("{ if v { give 1; } give 2; }", 0, 2);
        Checks.gives("{ if v { x = 1; } else { x = 2; } give x; }", 1, 1);
        Checks.gives("{ if v { x = 1; } else { x = 2; } give x; }", 0, 2);
        Checks.gives("{ if v < 5 { if v < 3 { x = 1; } else { x = 2; } x = x * 10; } else { x = 3; } give x; }", 2, 10);
        Checks.gives("{ if v < 5 { if v < 3 { x = 1; } else { x = 2; } x = x * 10; } else { x = 3; } give x; }", 4, 20);
        Checks.gives("{ if v < 5 { if v < 3 { x = 1; } else { x = 2; } x = x * 10; } else { x = 3; } give x; }", 5, 3);
        Checks.gives("{ if 0 { } else { } if 1 { } give 8; }", 5, 8);
    }

    private static void calls() {
        PondHouse h = Checks.house("kind a { link l; field x = 1; act g { give v * 2; } act d { do g; x = last; do h; give last + x + v; }"
                + " act h { give v + 7; } act e { do h; } act n { do e; give last; } act o { above; give last + 1; }"
                + " act s { send l g; give last; } }"
                + " kind b under a { act g { above; give last + v; } act q { above; give last; } act r { do h; above; give last; } }"
                + " kind c under b { } kind e under c { act g { above; give last * 100; } act h { give 50; } }");
        int a = Checks.create(h, "a");
        int b = Checks.create(h, "b");
        int c = Checks.create(h, "c");
        int e = Checks.create(h, "e");
        gave(h, a, "g", 4, 8);
        gave(h, b, "g", 4, 12);
        gave(h, c, "g", 4, 12);
        gave(h, e, "g", 4, 1200);
        // do is with v 0, last is what the latest call gave
        gave(h, a, "d", 5, 0 + 7 + 0 + 5);
        gave(h, e, "d", 5, 50 + 0 + 5);
        gave(h, a, "n", 3, 0);
        // nothing above: nothing, last is 0
        gave(h, a, "o", 3, 1);
        gave(h, b, "q", 3, 0);
        gave(h, b, "r", 3, 0);
        gave(h, b, "s", 3, -99);
        Checks.same("send to nobody", h.told(1), 1003);
        h.put(a, Checks.n(h, "l"), e);
        gave(h, a, "s", 3, 0);
        Checks.same("statements of two bodies above one another", h.told(2), 2 + 2 + 2 + 1);
        h.put(a, Checks.n(h, "l"), a);
        gave(h, a, "s", 3, 0);
        Checks.same("statements", h.told(2), 3);
        h.put(a, Checks.n(h, "l"), 4);
        gave(h, a, "s", 3, -99);
        Checks.same("send to one not made", h.told(1), 1003);
        h.put(a, Checks.n(h, "l"), 40);
        gave(h, a, "s", 3, -99);
        h.put(a, Checks.n(h, "l"), Integer.MAX_VALUE);
        gave(h, a, "s", 3, -99);
        Checks.same("send far off", h.told(1), 1003);
    }

    private static void gave(PondHouse h, int c, String act, int v, int due) {
        Checks.same("outcome of " + act, Checks.act(h, c, act, v), due == -99 ? 1 : 0);
        Checks.same("what gave " + act, h.told(0), due == -99 ? 0 : due);
    }

    private static void fails(String body, int v, int with, int statements) {
        PondHouse h = Checks.house("kind a { field x = 7; static s = 9; link l; act g " + body + " act h { fail 3; } }");
        int c = Checks.create(h, "a");
        Checks.same("outcome of " + body, Checks.act(h, c, "g", v), 1);
        Checks.same("told(0) of " + body, h.told(0), 0);
        Checks.same("told(1) of " + body, h.told(1), with);
        Checks.same("told(2) of " + body, h.told(2), statements);
    }

    private static void failures() {
        fails("{ fail v + 1; give 1; }", 4, 5, 1);
        fails("{ fail 0; }", 4, 0, 1);
        fails("{ do h; give 1; }", 4, 3, 2);
        fails("{ give q; }", 4, 1001, 1);
        fails("{ q = 1; }", 4, 1001, 1);
        fails("{ q = 1 / 0; }", 4, 1002, 1);
        fails("{ send q h; }", 4, 1001, 1);
        fails("{ send l h; }", 4, 1003, 1);
        fails("{ send x h; }", 4, 1003, 1);
        fails("{ send s q; }", 4, 1003, 1);
        fails("{ do q; }", 4, 1004, 1);
        fails("{ l = 0; send l q; }", 4, 1004, 2);
        fails("{ x = 5; give 1 / (v - 4); }", 4, 1002, 2);
        fails("{ if 1 / 0 { } }", 4, 1002, 1);
        fails("{ if 1 { fail 9; } give 1; }", 4, 9, 2);
        fails("{ give g; }", 4, 1001, 1);
    }

    private static void order() {
        // parts from the left: the first that can't be fails it
        fails("{ give q + 1 / 0; }", 4, 1001, 1);
        fails("{ give 1 / 0 + q; }", 4, 1002, 1);
        fails("{ give q < 1 / 0; }", 4, 1001, 1);
        fails("{ give 1 / 0 == q; }", 4, 1002, 1);
        fails("{ give (1 / 0) / q; }", 4, 1002, 1);
        PondHouse h = Checks.house("kind a { field x = 7; act g { x = 8; fail 1; } act f { do g; x = 9; } }");
        int c = Checks.create(h, "a");
        Checks.same("f", Checks.act(h, c, "f", 0), 1);
        Checks.same("what was done stays", Checks.value(h, c, "x"), 8);
    }

    private static void depth() {
        PondHouse h = Checks.house("kind a { field n = 0; act g { n = n + 1; if n < 21 { do g; } give n; } act f { n = n + 1; if n < 22 { do f; } give n; }"
                + " act t { n = n + 1; if n < 21 { do t; } else { above; do q; } } act u { n = n + 1; if n < 21 { do u; } else { above; give last + 5; } } act z { } }");
        int c = Checks.create(h, "a");
        Checks.same("20 are open", Checks.act(h, c, "g", 0), 0);
        Checks.same("gave", h.told(0), 21);
        h.put(c, Checks.n(h, "n"), 0);
        Checks.same("21 are open", Checks.act(h, c, "f", 0), 1);
        Checks.same("with 1005", h.told(1), 1005);
        Checks.same("statements", h.told(2), 63);
        h.put(c, Checks.n(h, "n"), 0);
        Checks.same("there is none: asked first", Checks.act(h, c, "t", 0), 1);
        Checks.same("with 1004", h.told(1), 1004);
        h.put(c, Checks.n(h, "n"), 0);
        Checks.same("above of none is not opened", Checks.act(h, c, "u", 0), 0);
        h.put(c, Checks.n(h, "n"), 0);
        Checks.same("calls one behind the other are not open at once", Checks.pond(h,
                "kind a { act z { } act g { do z; do z; do z; do z; do z; do z; do z; do z; do z; do z; do z; do z; do z; do z; do z; do z; do z; do z; do z; do z; do z; do z; give 1; } }"), 1);
        Checks.create(h, "a");
        Checks.same("g", Checks.act(h, 0, "g", 0), 0);
        PondHouse up = Checks.house("kind a { act g { give 1; } } kind b under a { field n = 0; act g { n = n + 1; if n < 21 { do g; } above; give last; } }");
        int b = Checks.create(up, "b");
        Checks.same("above as the 21st", Checks.act(up, b, "g", 0), 1);
        Checks.same("with 1005", up.told(1), 1005);
        PondHouse to = Checks.house("kind a { link l; field n = 0; act g { n = n + 1; if n < 22 { send l g; } } }");
        Checks.create(to, "a");
        to.put(0, Checks.n(to, "l"), 0);
        Checks.same("send as the 21st", Checks.act(to, 0, "g", 0), 1);
        Checks.same("with 1005", to.told(1), 1005);
    }

    private static void fuel() {
        StringBuilder text = new StringBuilder("kind a { field n = 0; act h { ");
        for (int i = 0; i < 49; i++) {
            text.append("n=n+1;");
        }
        text.append("} act g { do h; do h; do h; do h; do h; do h; do h; do h; do h; do h; } act f { do g; } act e { do g; n = 0; } }");
        PondHouse h = Checks.house(text.toString());
        int c = Checks.create(h, "a");
        Checks.same("500", Checks.act(h, c, "g", 0), 0);
        Checks.same("500 are told", h.told(2), 500);
        Checks.same("n", Checks.value(h, c, "n"), 490);
        Checks.same("501", Checks.act(h, c, "f", 0), 4);
        Checks.same("500 were taken", h.told(2), 500);
        Checks.same("nothing was given", h.told(0), 0);
        Checks.same("nothing failed", h.told(1), 0);
        Checks.same("what was done stays", Checks.value(h, c, "n"), 490 + 489);
        Checks.same("502", Checks.act(h, c, "e", 0), 4);
        Checks.same("again 500", Checks.act(h, c, "g", 0), 0);
    }

    private static void outcomes() {
        PondHouse h = Checks.house("kind a { field x = 7; act g { give 5; } act f { fail 6; } } kind b { act g { } }");
        int c = Checks.create(h, "a");
        Checks.same("told ahead of any", h.told(2), 0);
        Checks.act(h, c, "g", 0);
        Checks.same("gave", h.told(0), 5);
        Checks.same("failed", h.told(1), 0);
        Checks.same("statements", h.told(2), 1);
        Checks.same("told(3)", h.told(3), -1);
        Checks.same("told(-1)", h.told(-1), -1);
        Checks.same("no such act", Checks.act(h, c, "x", 0), 2);
        Checks.same("gave", h.told(0), 0);
        Checks.same("statements", h.told(2), 0);
        Checks.same("act(c, -1, 0)", h.act(c, -1, 0), 2);
        Checks.same("act(c, 40, 0)", h.act(c, 40, 0), 2);
        Checks.act(h, c, "f", 0);
        Checks.same("failed", h.told(1), 6);
        Checks.same("gave", h.told(0), 0);
        Checks.same("no such act", Checks.act(h, c, "x", 0), 2);
        Checks.same("failed", h.told(1), 0);
        Checks.act(h, c, "f", 0);
        Checks.same("no such creature", Checks.act(h, 1, "g", 0), 3);
        Checks.same("failed", h.told(1), 0);
        Checks.act(h, c, "g", 0);
        Checks.same("no such creature", Checks.act(h, 1, "g", 0), 3);
        Checks.same("gave", h.told(0), 0);
        Checks.same("statements", h.told(2), 0);
        Checks.same("act(-1, ..)", Checks.act(h, -1, "g", 0), 3);
        Checks.same("act(40, ..)", Checks.act(h, 40, "g", 0), 3);
        Checks.same("neither creature nor act", Checks.act(h, 40, "x", 0), 3);
        int b = Checks.create(h, "b");
        Checks.applies(h, "drop b;");
        Checks.same("one that ended", Checks.act(h, b, "g", 0), 3);
        Checks.act(h, c, "g", 0);
        Checks.yes("wake", h.wake(Checks.n(h, "f")));
        h.beat();
        Checks.same("beats change nothing of it", h.told(0), 5);
        Checks.same("beats change nothing of it", h.told(1), 0);
    }
}
