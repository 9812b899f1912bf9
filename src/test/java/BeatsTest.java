/** Promises 19 to 25: wake, beat, outcome, ran, long acts. */
public final class BeatsTest {
    public static void main(String[] args) {
        beats();
        outcomes();
        ranBodies();
        fiftyBodies();
        longActs();
        longActsEnd();
        longActsOfOldBodies();
        tenLongActs();
        Checks.endWithCode();
    }

    private static void beats() {
        PondHouse h = Checks.house("kind a { field n = 0; act g { n = n * 10 + v; } act f { n = n + 1; } }");
        Checks.same("the first", h.beat(), 1);
        int c = Checks.create(h, "a");
        Checks.yes("wake", h.wake(Checks.n(h, "g")));
        Checks.same("the second", h.beat(), 2);
        Checks.same("the third", h.beat(), 3);
        Checks.same("v is the beat", Checks.value(h, c, "n"), 23);
        Checks.yes("wake(0), the first name", h.wake(0));
        Checks.yes("wake", h.wake(Checks.n(h, "g")));
        Checks.no("wake(99)", h.wake(99));
        Checks.no("wake(-2)", h.wake(-2));
        Checks.no("wake(no name yet)", h.wake(4));
        h.beat();
        Checks.same("wake stays", Checks.value(h, c, "n"), 234);
        Checks.yes("wake(NONE)", h.wake(-1));
        h.beat();
        Checks.same("no act", Checks.value(h, c, "n"), 234);
        Checks.same("outcome", h.outcome(c), 2);
        Checks.yes("wake a name that is no act", h.wake(Checks.n(h, "n")));
        h.beat();
        Checks.same("outcome", h.outcome(c), 2);
        Checks.yes("wake", h.wake(Checks.n(h, "f")));
        for (int i = 7; i <= 450; i++) {
            Checks.same("beat", h.beat(), i);
        }
        Checks.same("n", Checks.value(h, c, "n"), 234 + 444);
    }

    private static void outcomes() {
        PondHouse h = Checks.house("kind a { act g { fail 1; } } kind b { act g { do g; } } kind c { } kind d { act g { } }"
                + " kind e { act g { do h; } act h { do i; do i; do i; do i; } act i { do j; do j; do j; do j; do j; } act j { do k; do k; do k; do k; do k; } act k { do l; do l; do l; do l; do l; } act l { } }");
        for (String kind : "d a b c e d".split(" ")) {
            Checks.create(h, kind);
        }
        Checks.same("without a beat", h.outcome(0), -1);
        h.wake(Checks.n(h, "g"));
        h.beat();
        int[] due = {0, 1, 1, 2, 4, 0};
        for (int c = 0; c < 6; c++) {
            Checks.same("outcome", h.outcome(c), due[c]);
        }
        Checks.same("none such", h.outcome(6), -1);
        Checks.same("outcome(-1)", h.outcome(-1), -1);
        Checks.same("outcome(40)", h.outcome(40), -1);
        Checks.create(h, "d");
        Checks.same("made since", h.outcome(6), 3);
        int k = Checks.patch(h, "drop d;");
        h.apply(k);
        h.beat();
        Checks.same("it ended behind its turn", h.outcome(0), 0);
        Checks.same("so did the other", h.outcome(6), 0);
        h.beat();
        Checks.same("it was not living", h.outcome(0), 3);
        Checks.same("the living one", h.outcome(1), 1);
    }

    private static void ranBodies() {
        PondHouse h = Checks.house("kind a { link l; act g { give 1; } act w { do g; } act f { send l g; do x; } act s { rest; do g; rest; } }"
                + " kind b under a { act w { above; } act g { above; } }");
        Checks.create(h, "b");
        Checks.create(h, "a");
        h.put(0, Checks.n(h, "l"), 1);
        h.wake(Checks.n(h, "w"));
        Checks.same("ran without a beat", h.ran(0, 0), -1);
        Checks.act(h, 0, "w", 0);
        Checks.same("from outside none is noted", h.ran(0, 0), -1);
        h.beat();
        // the second beat has bodies of a patched kind
        Checks.same("ran", h.ran(0, 3), 0);
        Checks.applies(h, "change b { }");
        h.begin(1, Checks.n(h, "s"), 0);
        h.beat();
        ran(h, 0, 0, "w", "b", 1);
        ran(h, 1, 0, "w", "a", 0);
        ran(h, 2, 0, "g", "b", 1);
        ran(h, 3, 0, "g", "a", 0);
        ran(h, 4, 1, "w", "a", 0);
        ran(h, 5, 1, "g", "a", 0);
        Checks.same("the body of a long act was begun before", h.ran(6, 0), -1);
        Checks.same("ran(0, 4)", h.ran(0, 4), -1);
        Checks.same("ran(0, -1)", h.ran(0, -1), -1);
        Checks.same("ran(-1, 0)", h.ran(-1, 0), -1);
        h.wake(Checks.n(h, "f"));
        h.beat();
        ran(h, 0, 0, "f", "a", 0);
        ran(h, 1, 1, "g", "a", 0);
        ran(h, 2, 1, "f", "a", 0);
        // the long act goes on and calls g
        ran(h, 3, 1, "g", "a", 0);
        Checks.same("no more", h.ran(4, 0), -1);
        Checks.act(h, 0, "w", 0);
        Checks.same("from outside none is noted behind a beat", h.ran(4, 0), -1);
        int name = h.ran(1, 2);
        Checks.pond(h, "kind z { }");
        Checks.same("a pond told since changes nothing", h.ran(1, 2), name);
        h.beat();
        Checks.same("the latest beat had none", h.ran(0, 0), -1);
    }

    private static void ran(PondHouse h, int i, int creature, String act, String kind, int generation) {
        Checks.same("creature of " + i, h.ran(i, 0), creature);
        Checks.same("act of " + i, h.ran(i, 1), Checks.n(h, act));
        Checks.same("kind of " + i, h.ran(i, 2), Checks.n(h, kind));
        Checks.same("generation of " + i, h.ran(i, 3), generation);
    }

    private static void fiftyBodies() {
        PondHouse h = Checks.house("kind a { act g { do h; } act h { } }");
        for (int c = 0; c < 26; c++) {
            Checks.create(h, "a");
        }
        h.wake(Checks.n(h, "g"));
        h.beat();
        ran(h, 49, 24, "h", "a", 0);
        Checks.same("the 51st", h.ran(50, 0), -1);
        Checks.same("all ran", h.outcome(25), 0);
    }

    private static void longActs() {
        PondHouse h = Checks.house("kind a { field n = 0; act g { do f; n = n + last; rest; n = n + last * 10; do r; rest; n = n + last * 100; give n + v; }"
                + " act f { give 3; } act r { n = n + 1000; rest; n = n + 1000; give 4; } }");
        int c = Checks.create(h, "a");
        int g = Checks.n(h, "g");
        Checks.same("no creature", h.begin(1, g, 0), -1);
        Checks.same("begin(-1)", h.begin(-1, g, 0), -1);
        Checks.same("no act", h.begin(c, Checks.n(h, "n"), 0), -1);
        Checks.same("begin(c, -1)", h.begin(c, -1, 0), -1);
        Checks.same("begin(c, 40)", h.begin(c, 40, 0), -1);
        Checks.same("begin", h.begin(c, g, 7), 0);
        Checks.same("begun, not run", Checks.value(h, c, "n"), 0);
        under(h, 0, 1, 0, 0, 0, 0, 0);
        h.beat();
        Checks.same("n", Checks.value(h, c, "n"), 3);
        under(h, 0, 1, 1, 0, 0, 0, 0);
        h.beat();
        // last is kept; a rest within a call is nothing
        Checks.same("n", Checks.value(h, c, "n"), 3 + 30 + 2000);
        under(h, 0, 1, 2, 0, 0, 0, 0);
        Checks.yes("forbid", h.forbid(0, true));
        under(h, 0, 1, 2, 0, 0, 1, 0);
        Checks.yes("forbid", h.forbid(0, false));
        h.beat();
        Checks.same("n", Checks.value(h, c, "n"), 2033 + 400);
        under(h, 0, 0, 3, 0, 0, 0, 2433 + 7);
        Checks.no("forbid one that is over", h.forbid(0, true));
        h.beat();
        under(h, 0, 0, 3, 0, 0, 0, 2433 + 7);
        Checks.same("under(0, 6)", h.under(0, 6), -1);
        Checks.same("under(0, -1)", h.under(0, -1), -1);
        Checks.same("under(1, 0)", h.under(1, 0), -1);
        Checks.same("under(-1, 0)", h.under(-1, 0), -1);
        Checks.same("under(10, 0)", h.under(10, 0), -1);
        Checks.no("forbid(-1)", h.forbid(-1, true));
        Checks.no("forbid(10)", h.forbid(10, true));
        // the number is used again
        Checks.same("begin", h.begin(c, Checks.n(h, "r"), 0), 0);
        under(h, 0, 1, 0, 0, 0, 0, 0);
    }

    private static void under(PondHouse h, int l, int way, int runs, int outcome, int generation, int forbids, int gave) {
        Checks.same("under way", h.under(l, 0), way);
        Checks.same("runs", h.under(l, 1), runs);
        Checks.same("outcome", h.under(l, 2), outcome);
        Checks.same("generation", h.under(l, 3), generation);
        Checks.same("forbids", h.under(l, 4), forbids);
        Checks.same("gave", h.under(l, 5), gave);
    }

    private static void longActsEnd() {
        PondHouse h = Checks.house("kind a { field n = 0; act f { rest; fail 3; rest; } act t { n = n + 1; rest; do a; } act a { do b; do b; do b; do b; do b; do b; }"
                + " act b { do c; do c; do c; do c; do c; do c; do c; do c; do c; do c; do c; } act c { n=n+1; n=n+1; n=n+1; n=n+1; n=n+1; n=n+1; n=n+1; } act e { rest; } }"
                + " kind z { act s { rest; rest; rest; give 9; } }");
        int a = Checks.create(h, "a");
        int z = Checks.create(h, "z");
        h.begin(a, Checks.n(h, "f"), 0);
        h.begin(a, Checks.n(h, "t"), 0);
        h.begin(z, Checks.n(h, "s"), 0);
        h.begin(a, Checks.n(h, "e"), 0);
        h.beat();
        under(h, 0, 1, 1, 0, 0, 0, 0);
        under(h, 3, 1, 1, 0, 0, 0, 0);
        h.forbid(2, true);
        h.beat();
        under(h, 0, 0, 2, 1, 0, 0, 0);
        under(h, 1, 0, 2, 4, 0, 0, 0);
        under(h, 2, 1, 2, 0, 0, 1, 0);
        under(h, 3, 0, 2, 0, 0, 0, 0);
        // the least number that is not under way
        Checks.same("begin", h.begin(a, Checks.n(h, "e"), 0), 0);
        Checks.same("begin", h.begin(a, Checks.n(h, "e"), 0), 1);
        Checks.same("begin", h.begin(a, Checks.n(h, "e"), 0), 3);
        h.forbid(2, false);
        Checks.applies(h, "drop z;");
        under(h, 2, 0, 3, 3, 0, 0, 0);
        under(h, 1, 1, 1, 0, 0, 0, 0);
        // by back(), too
        Checks.applies(h, "kind y { act s { rest; } }");
        int y = Checks.create(h, "y");
        Checks.same("begin", h.begin(y, Checks.n(h, "s"), 0), 0);
        h.beat();
        under(h, 0, 1, 1, 0, 2, 0, 0);
        Checks.yes("back", h.back());
        under(h, 0, 0, 1, 3, 2, 0, 0);
    }

    private static void longActsOfOldBodies() {
        PondHouse h = Checks.house("kind a { field n = 0; static s = 1; act g { give 5; } act f { give 1; } }"
                + " kind b under a { act g { rest; above; n = last; do f; n = n * 10 + last; rest; give n; } act f { give 2; } }");
        int b = Checks.create(h, "b");
        int a = Checks.create(h, "a");
        Checks.same("begin", h.begin(b, Checks.n(h, "g"), 0), 0);
        Checks.same("begin of another, above its kind is none", h.begin(a, Checks.n(h, "g"), 0), 1);
        h.beat();
        under(h, 1, 0, 1, 0, 0, 0, 5);
        Checks.applies(h, "change a { act g { give 6; } } change b { act g { give 7; } act f { give 3; } }");
        // this beat's run was ahead of the patch
        Checks.same("n", Checks.value(h, b, "n"), 52);
        Checks.same("a second one, of the new body", h.begin(b, Checks.n(h, "g"), 0), 1);
        under(h, 1, 1, 0, 0, 1, 0, 0);
        h.beat();
        under(h, 0, 0, 3, 0, 0, 0, 52);
        under(h, 1, 0, 1, 0, 1, 0, 7);
        // above of an old body is the old kind above; do is of the creature's kind now
        PondHouse o = Checks.house("kind a { field n = 0; act g { give 5; } act f { give 1; } }"
                + " kind b under a { act g { rest; above; n = last; do f; n = n * 10 + last; rest; give n; } act f { give 2; } }");
        Checks.create(o, "b");
        o.begin(0, Checks.n(o, "g"), 0);
        Checks.applies(o, "change a { act g { give 6; } } change b { act g { give 7; } act f { give 3; } }");
        o.beat();
        Checks.same("n", Checks.value(o, 0, "n"), 53);
        Checks.same("the body above it", o.ran(0, 2), Checks.n(o, "a"));
        Checks.same("in its generation", o.ran(0, 3), 0);
        Checks.same("the body it did", o.ran(1, 2), Checks.n(o, "b"));
        Checks.same("in its generation", o.ran(1, 3), 1);
    }

    private static void tenLongActs() {
        PondHouse h = Checks.house("kind a { field n = 1; act g { n = n * 2 + v; rest; give 1; } }");
        int c = Checks.create(h, "a");
        int g = Checks.n(h, "g");
        for (int l = 0; l < 10; l++) {
            Checks.same("begin", h.begin(c, g, l % 2), l);
        }
        Checks.same("the 11th", h.begin(c, g, 0), -1);
        h.beat();
        // by numbers: binary 1, then 0 1 0 1 ..
        Checks.same("n", Checks.value(h, c, "n"), 0b10101010101);
        h.beat();
        Checks.same("all are over", h.begin(c, g, 0), 0);
    }
}
