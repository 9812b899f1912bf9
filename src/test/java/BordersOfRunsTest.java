/** Term II of runs, and promises 17 and 18: what wraps around, what fails, what is too deep and too long. */
public final class BordersOfRunsTest {
    private static final int MIN = Integer.MIN_VALUE;
    private static final int MAX = Integer.MAX_VALUE;

    public static void main(String[] args) {
        sumsWrap();
        differencesWrap();
        productsWrap();
        minusWraps();
        wrappedInFieldsAndStatics();
        divisionTowardsZero();
        divisionByZero();
        comparisonsAtTheEnds();
        partsFromTheLeft();
        ifOfAnythingButZero();
        nameOfNothing();
        namesInTheirOrder();
        expressionFirst();
        giveAndItsLack();
        failWithAnyNumber();
        lastAtFirst();
        lastOfThisBodyAlone();
        doAndSendWithZero();
        aboveWithTheSame();
        aboveOfNothing();
        sendToTheEnds();
        sendToNobody();
        sendAsksInOrder();
        actsThatAreNotThere();
        theTwentyFirstDo();
        theTwentyFirstSend();
        theTwentyFirstAbove();
        theTwentyFirstOfAllSorts();
        notThereAheadOfTooDeep();
        openOnesThatClosed();
        failingEndsTheWholeRun();
        fuelOfOneBody();
        fuelOfCalls();
        fuelOfAssignments();
        spentAheadOfAFailure();
        ifsAreStatements();
        restIsNothing();
        fiveOutcomes();
        outcomesInOrder();
        toldOfTheLatest();
        toldOfNothing();
        Checks.endWithCode();
    }

    /** An act g of a creature with x, static s and link l; v comes in. */
    private static void gives(String e, int v, int due) {
        Checks.gives("{ give " + e + "; }", v, due);
    }

    private static PondHouse run(String body, int v, int outcome, int gave, int failed, int statements) {
        PondHouse h = Checks.house("kind a { field x = 7; static s = 9; link l; act g " + body + " act h { fail 3; } act k { give 4; } }");
        Checks.create(h, "a");
        Checks.same("outcome of " + body, Checks.act(h, 0, "g", v), outcome);
        Checks.same("told(0) of " + body, h.told(0), gave);
        Checks.same("told(1) of " + body, h.told(1), failed);
        Checks.same("told(2) of " + body, h.told(2), statements);
        return h;
    }

    private static void fails(String body, int v, int with, int statements) {
        run(body, v, 1, 0, with, statements);
    }

    /** "Numbers are ints, which wrap" */
    private static void sumsWrap() {
        gives("v + 1", MAX, MIN);
        gives("v + 1", MAX - 1, MAX);
        gives("v + v", MIN, 0);
        gives("v + -1", MIN, MAX);
        gives("v + v", MAX, -2);
    }

    private static void differencesWrap() {
        gives("v - 1", MIN, MAX);
        gives("v - 1", MIN + 1, MIN);
        gives("0 - v", MIN, MIN);
        gives("-1 - v", MIN, MAX);
        gives("v - -1", MAX, MIN);
    }

    private static void productsWrap() {
        gives("v * v", 65536, 0);
        gives("v * v", 46341, -2147479015);
        gives("v * 2", MAX, -2);
        gives("v * -1", MIN, MIN);
        gives("999999 * 999999", 0, 999999 * 999999);
    }

    private static void minusWraps() {
        gives("-v", MIN, MIN);
        gives("-v", MAX, -MAX);
        gives("--v", MIN, MIN);
        gives("-(v + 1)", MAX, MIN);
    }

    private static void wrappedInFieldsAndStatics() {
        PondHouse h = Checks.house("kind a { field x = 0; static s = 0; act g { x = x + v; s = s - v; } }");
        Checks.create(h, "a");
        Checks.act(h, 0, "g", MAX);
        Checks.act(h, 0, "g", 1);
        Checks.same("x", Checks.value(h, 0, "x"), MIN);
        Checks.same("s", h.fixed(Checks.n(h, "a"), Checks.n(h, "s")), MIN);
        Checks.act(h, 0, "g", 1);
        Checks.same("s", h.fixed(Checks.n(h, "a"), Checks.n(h, "s")), MAX);
    }

    /** "/ towards 0" */
    private static void divisionTowardsZero() {
        gives("7 / 2", 0, 3);
        gives("-7 / 2", 0, -3);
        gives("7 / -2", 0, -3);
        gives("-7 / -2", 0, 3);
        gives("-1 / 2", 0, 0);
        gives("0 / v", 5, 0);
        gives("v / -1", MIN, MIN);
        gives("v / -1", MAX, -MAX);
        gives("v / v", MIN, 1);
        gives("v / 1", MIN, MIN);
        gives("1 / v", MIN, 0);
    }

    /** "by 0 FAILS with 1002" */
    private static void divisionByZero() {
        fails("{ give 1 / 0; }", 0, 1002, 1);
        fails("{ give 0 / 0; }", 0, 1002, 1);
        fails("{ give v / (v - v); }", MIN, 1002, 1);
        fails("{ give 1 / (2 < 1); }", 0, 1002, 1);
        fails("{ x = 1; x = 5 / -0; x = 2; }", 0, 1002, 2);
        gives("v / 1 + 5 / -1", 0, -5);
    }

    /** "< and == are 1 or 0" */
    private static void comparisonsAtTheEnds() {
        gives("v < v + 1", MAX, 0);
        gives("v < v + 1", MAX - 1, 1);
        gives("v < v - 1", MIN, 1);
        gives("v < 0", MIN, 1);
        gives("v < 0", 0, 0);
        gives("v < 0", -1, 1);
        gives("v < v", MIN, 0);
        gives("v == v", MIN, 1);
        gives("v == -v", MIN, 1);
        gives("v == -v", MAX, 0);
        gives("v == 0", 0, 1);
        gives("v == 0", 1, 0);
        gives("(v == 5) + (v < 6)", 5, 2);
    }

    /** "parts from the left": the first that can't be fails the run. */
    private static void partsFromTheLeft() {
        fails("{ give q + 1 / 0; }", 0, 1001, 1);
        fails("{ give 1 / 0 + q; }", 0, 1002, 1);
        fails("{ give q - 1 / 0; }", 0, 1001, 1);
        fails("{ give q * (1 / 0); }", 0, 1001, 1);
        fails("{ give (1 / 0) * q; }", 0, 1002, 1);
        fails("{ give q / 0; }", 0, 1001, 1);
        fails("{ give q < 1 / 0; }", 0, 1001, 1);
        fails("{ give 1 / 0 == q; }", 0, 1002, 1);
        gives("100 - 10 - 1", 0, 89);
        gives("100 / 10 / 5", 0, 2);
        gives("100 / 8 * 8", 0, 96);
    }

    /** "if: E is not 0" */
    private static void ifOfAnythingButZero() {
        for (int v : new int[] {1, -1, 2, MAX, MIN, 65536}) {
            Checks.gives("{ if v { give 1; } else { give 2; } }", v, 1);
        }
        Checks.gives("{ if v { give 1; } else { give 2; } }", 0, 2);
        Checks.gives("{ if v { give 1; } give 3; }", 0, 3);
        Checks.gives("{ if v == v { give 1; } give 3; }", 0, 1);
    }

    /** "else the run FAILS with 1001" */
    private static void nameOfNothing() {
        fails("{ give q; }", 0, 1001, 1);
        fails("{ q = 1; }", 0, 1001, 1);
        fails("{ give a; }", 0, 1001, 1);
        fails("{ give h; }", 0, 1001, 1);
        fails("{ h = 1; }", 0, 1001, 1);
        fails("{ if q { } }", 0, 1001, 1);
        fails("{ fail q; }", 0, 1001, 1);
        fails("{ send q h; }", 0, 1001, 1);
        PondHouse h = Checks.house("kind a { act g { give x; } } kind b under a { field x = 5; } kind c { field x = 6; }");
        Checks.create(h, "a");
        Checks.create(h, "b");
        Checks.same("a field of a kind under it is not its own", Checks.act(h, 0, "g", 0), 1);
        Checks.same("with 1001", h.told(1), 1001);
        Checks.same("of the creature's kind it is", Checks.act(h, 1, "g", 0), 0);
        Checks.same("gave", h.told(0), 5);
    }

    /** "the CREATURE's FIELD; else its KIND's STATIC; else what it has LOST under that NAME" */
    private static void namesInTheirOrder() {
        PondHouse h = Checks.house("kind a { field x = 1; act g { x = x + 10; give x; } } kind b under a { }");
        Checks.create(h, "b");
        order(h, 11);
        Checks.applies(h, "change a { drop x; }");
        order(h, 21);
        Checks.same("lost", Checks.value(h, 0, "x"), 21);
        Checks.applies(h, "change a { static x = 100; }");
        order(h, 110);
        Checks.same("lost stays", Checks.value(h, 0, "x"), 21);
        Checks.applies(h, "change a { drop x; } change b { field x = 1000; }");
        order(h, 1010);
        Checks.applies(h, "change b { drop x; }");
        order(h, 1020);
        Checks.same("the latest is lost", Checks.value(h, 0, "x"), 1020);
    }

    private static void order(PondHouse h, int due) {
        Checks.same("g", Checks.act(h, 0, "g", 0), 0);
        Checks.same("gave", h.told(0), due);
    }

    /** "NAME = E: E first, then the NAME likewise" */
    private static void expressionFirst() {
        fails("{ q = 1 / 0; }", 0, 1002, 1);
        fails("{ q = 1; }", 0, 1001, 1);
        fails("{ x = q; }", 0, 1001, 1);
        PondHouse h = run("{ x = x + 1; s = x; x = 1 / 0; }", 0, 1, 0, 1002, 3);
        Checks.same("x", Checks.value(h, 0, "x"), 8);
        Checks.same("s", h.fixed(Checks.n(h, "a"), Checks.n(h, "s")), 8);
    }

    /** "give: the ACT ends with that; without it with 0" */
    private static void giveAndItsLack() {
        run("{ }", 5, 0, 0, 0, 0);
        run("{ give 1; x = 2; }", 5, 0, 1, 0, 1);
        run("{ give v; }", MIN, 0, MIN, 0, 1);
        run("{ give v; }", MAX, 0, MAX, 0, 1);
        run("{ x = 3; }", 5, 0, 0, 0, 1);
        run("{ do k; }", 5, 0, 0, 0, 2);
        run("{ do k; give last; }", 5, 0, 4, 0, 3);
        run("{ if 1 { if 1 { give 6; } } give 7; }", 5, 0, 6, 0, 3);
    }

    /** "fail E: the run FAILS with that" */
    private static void failWithAnyNumber() {
        for (int v : new int[] {MIN, -1, 0, 1, 1001, 1005, MAX}) {
            fails("{ fail v; }", v, v, 1);
        }
        fails("{ do h; give 1; }", 0, 3, 2);
        fails("{ if 1 { fail 8; } }", 0, 8, 2);
    }

    /** "last: .. (0 at first)" */
    private static void lastAtFirst() {
        Checks.gives("{ give last; }", 5, 0);
        Checks.gives("{ give last * 5 + 3; }", 5, 3);
        PondHouse h = Checks.house("kind a { act g { do k; do f; give last; } act k { give 4; } act f { give last + 10; } }");
        Checks.create(h, "a");
        Checks.same("g", Checks.act(h, 0, "g", 7), 0);
        Checks.same("0 at first in each body", h.told(0), 10);
    }

    private static void lastOfThisBodyAlone() {
        PondHouse h = Checks.house("kind a { link l; act g { do k; do f; give last; } act k { give 4; } act f { do k; } act e { do k; send l f; give last; }"
                + " act b { give 8; } act i { give last; } } kind b under a { act b { do k; above; give last; } act i { do k; above; give last; } }");
        Checks.create(h, "b");
        h.put(0, Checks.n(h, "l"), 0);
        Checks.act(h, 0, "g", 7);
        Checks.same("one that gave nothing gave 0", h.told(0), 0);
        Checks.act(h, 0, "e", 7);
        Checks.same("by send, too", h.told(0), 0);
        Checks.act(h, 0, "b", 7);
        Checks.same("the latest is above", h.told(0), 8);
        Checks.act(h, 0, "i", 7);
        Checks.same("last of the body above is 0 at first", h.told(0), 0);
    }

    /** "do: an ACT of this CREATURE, send a b: .. with v 0" */
    private static void doAndSendWithZero() {
        PondHouse h = Checks.house("kind a { link l; act g { do k; give last; } act f { send l k; give last; } act k { give v + 1; } }");
        Checks.create(h, "a");
        h.put(0, Checks.n(h, "l"), 0);
        for (int v : new int[] {MIN, -1, 0, 7, MAX}) {
            Checks.act(h, 0, "g", v);
            Checks.same("do", h.told(0), 1);
            Checks.act(h, 0, "f", v);
            Checks.same("send", h.told(0), 1);
        }
    }

    /** "above: .. with the same v" */
    private static void aboveWithTheSame() {
        PondHouse h = Checks.house("kind a { act g { give v; } act f { give v; } } kind b under a { act g { above; give last; } act f { do g; give last; } }"
                + " kind c under b { act f { above; give last + v; } }");
        Checks.create(h, "c");
        for (int v : new int[] {MIN, -1, 0, 7, MAX}) {
            Checks.act(h, 0, "g", v);
            Checks.same("above", h.told(0), v);
            Checks.act(h, 0, "f", v);
            Checks.same("above of a body that was done with 0", h.told(0), v);
        }
    }

    /** "(none: nothing, last is 0)" */
    private static void aboveOfNothing() {
        run("{ above; give last; }", 5, 0, 0, 0, 2);
        run("{ do k; above; give last; }", 5, 0, 0, 0, 4);
        PondHouse h = Checks.house("kind a { act f { } } kind b under a { act k { give 4; } act g { do k; above; give last + 1; } } kind c under b { act g { above; give last; } }");
        Checks.create(h, "b");
        Checks.same("g", Checks.act(h, 0, "g", 0), 0);
        Checks.same("kinds above, none with the act", h.told(0), 1);
        Checks.create(h, "c");
        Checks.same("g", Checks.act(h, 1, "g", 0), 0);
        Checks.same("not the one under it", h.told(0), 1);
        h.wake(Checks.n(h, "g"));
        h.beat();
        Checks.same("bodies that were begun: g and k of b, then g of c, g and k of b", h.ran(5, 0), -1);
        Checks.same("the last of them", h.ran(4, 1), Checks.n(h, "k"));
    }

    /** "ACT b of the CREATURE whose number NAME a has": 0 and 39 are such. */
    private static void sendToTheEnds() {
        PondHouse h = Checks.house("kind a { link l; field x = 0; act g { send l k; give last; } act k { x = x + 1; give x; } }");
        int l = Checks.n(h, "l");
        int a = Checks.n(h, "a");
        for (int c = 0; c < 40; c++) {
            h.create(a);
        }
        for (int to : new int[] {0, 39}) {
            h.put(20, l, to);
            Checks.same("g", Checks.act(h, 20, "g", 0), 0);
            Checks.same("gave", h.told(0), 1);
            Checks.same("x", Checks.value(h, to, "x"), 1);
        }
        Checks.same("the sender's own", Checks.value(h, 20, "x"), 0);
        h.put(20, l, 20);
        Checks.same("to itself", Checks.act(h, 20, "g", 0), 0);
        Checks.same("x", Checks.value(h, 20, "x"), 1);
    }

    /** "(none such living: FAILS with 1003)" */
    private static void sendToNobody() {
        PondHouse h = Checks.house("kind a { link l; act g { send l k; } act k { } } kind b { act k { } }");
        Checks.create(h, "a");
        Checks.create(h, "b");
        int l = Checks.n(h, "l");
        h.put(0, l, 1);
        Checks.same("there is one", Checks.act(h, 0, "g", 0), 0);
        for (int to : new int[] {-1, -2, MIN, 2, 39, 40, 41, 1000, MAX}) {
            h.put(0, l, to);
            Checks.same("nobody " + to, Checks.act(h, 0, "g", 0), 1);
            Checks.same("with 1003", h.told(1), 1003);
        }
        Checks.applies(h, "drop b;");
        h.put(0, l, 1);
        Checks.same("one that ended", Checks.act(h, 0, "g", 0), 1);
        Checks.same("with 1003", h.told(1), 1003);
    }

    private static void sendAsksInOrder() {
        fails("{ send q nope; }", 0, 1001, 1);
        fails("{ send l nope; }", 0, 1003, 1);
        fails("{ l = 0; send l nope; }", 0, 1004, 2);
        fails("{ s = 0; send s h; }", 0, 3, 3);
        fails("{ x = 0; send x h; }", 0, 3, 3);
        PondHouse h = new PondHouse();
        Checks.same("l is the name 0", Checks.n(h, "l"), 0);
        Checks.same("k is the name 1", Checks.n(h, "k"), 1);
        Checks.pond(h, "kind a { link l; act g { send l k; give last; } act k { give 8; } act f { send l l; give last; } act l { give 9; } }");
        Checks.create(h, "a");
        h.put(0, 0, 0);
        Checks.same("g", Checks.act(h, 0, "g", 0), 0);
        Checks.same("gave", h.told(0), 8);
        Checks.same("f", Checks.act(h, 0, "f", 0), 0);
        Checks.same("gave", h.told(0), 9);
    }

    /** "do, send of an ACT that is not there FAIL with 1004" */
    private static void actsThatAreNotThere() {
        fails("{ do nope; }", 0, 1004, 1);
        fails("{ do x; }", 0, 1004, 1);
        fails("{ do a; }", 0, 1004, 1);
        PondHouse h = Checks.house("kind a { link l; act g { do k; } act f { send l k; } } kind b under a { act k { give 1; } }");
        Checks.create(h, "a");
        Checks.create(h, "b");
        Checks.same("the kind under it has it, it has not", Checks.act(h, 0, "g", 0), 1);
        Checks.same("with 1004", h.told(1), 1004);
        h.put(1, Checks.n(h, "l"), 0);
        Checks.same("nor has the one it is sent to", Checks.act(h, 1, "f", 0), 1);
        Checks.same("with 1004", h.told(1), 1004);
        h.put(0, Checks.n(h, "l"), 1);
        Checks.same("that one has it", Checks.act(h, 0, "f", 0), 0);
        Checks.same("do of the creature's own", Checks.act(h, 1, "g", 0), 0);
    }

    /** Runs g of a creature whose n counts the bodies; the most is how many are begun. */
    private static PondHouse deep(String text, int bodies, int outcome) {
        PondHouse h = Checks.house(text);
        Checks.create(h, text.contains("kind b") ? "b" : "a");
        if (text.contains("link l")) {
            h.put(0, Checks.n(h, "l"), 0);
        }
        Checks.same("outcome of " + text, Checks.act(h, 0, "g", bodies), outcome);
        Checks.same("failed with", h.told(1), outcome == 1 ? 1005 : 0);
        Checks.same("n", Checks.value(h, 0, "n"), 21);
        return h;
    }

    /** "The 21st do, send or above that is open FAILS with 1005." */
    private static void theTwentyFirstDo() {
        deep("kind a { field n = 0; act g { n = n + 1; if n < 21 { do g; } } }", 21, 0);
        deep("kind a { field n = 0; act g { n = n + 1; if n < 22 { do g; } } }", 22, 1);
        deep("kind a { field n = 0; act g { n = n + 1; do g; } }", 22, 1);
        PondHouse h = deep("kind a { field n = 0; act g { n = n + 1; if n < 21 { do g; give last; } give 77; } }", 21, 0);
        Checks.same("it comes up from the 21st body", h.told(0), 77);
    }

    private static void theTwentyFirstSend() {
        deep("kind a { link l; field n = 0; act g { n = n + 1; if n < 21 { send l g; } } }", 21, 0);
        deep("kind a { link l; field n = 0; act g { n = n + 1; if n < 22 { send l g; } } }", 22, 1);
    }

    private static void theTwentyFirstAbove() {
        deep("kind a { field n = 0; act g { } } kind b under a { act g { n = n + 1; if n < 21 { do g; } above; } }", 21, 1);
        deep("kind a { field n = 1; act g { } } kind b under a { act g { n = n + 1; if n < 21 { do g; } above; } }", 20, 0);
    }

    private static void theTwentyFirstOfAllSorts() {
        String kinds = "kind a { link l; field n = 0; act g { n = n + 1; if n < 21 { do f; } } act f { n = n + 1; if n < 21 { send l g; } } }"
                + " kind b under a { act g { above; } act f { above; } }";
        PondHouse h = Checks.house(kinds);
        Checks.create(h, "b");
        h.put(0, Checks.n(h, "l"), 0);
        Checks.same("a third is by above", Checks.act(h, 0, "g", 0), 1);
        Checks.same("with 1005", h.told(1), 1005);
        Checks.same("ten of g and f were done", Checks.value(h, 0, "n"), 10);
        h.put(0, Checks.n(h, "n"), 11);
        Checks.same("ten and ten are open", Checks.act(h, 0, "g", 0), 0);
        Checks.same("n", Checks.value(h, 0, "n"), 21);
        h.put(0, Checks.n(h, "n"), 10);
        Checks.same("one more", Checks.act(h, 0, "g", 0), 1);
        Checks.same("with 1005", h.told(1), 1005);
    }

    /** "(asked first)": 1004 ahead of 1005; above of none is nothing. */
    private static void notThereAheadOfTooDeep() {
        PondHouse h = Checks.house("kind a { link l; field n = 0; act g { n = n + 1; if n < 21 { do g; } else { do nope; } }"
                + " act f { n = n + 1; if n < 21 { do f; } else { send l nope; } } act e { n = n + 1; if n < 21 { do e; } else { above; give 5; } give last; }"
                + " act d { n = n + 1; if n < 21 { do d; } else { l = 5; send l d; } } }");
        Checks.create(h, "a");
        h.put(0, Checks.n(h, "l"), 0);
        String[] acts = {"g", "f", "d"};
        int[] due = {1004, 1004, 1003};
        for (int i = 0; i < 3; i++) {
            h.put(0, Checks.n(h, "n"), 0);
            Checks.same("outcome of " + acts[i], Checks.act(h, 0, acts[i], 0), 1);
            Checks.same("failed with", h.told(1), due[i]);
        }
        h.put(0, Checks.n(h, "n"), 0);
        Checks.same("above of none", Checks.act(h, 0, "e", 0), 0);
        Checks.same("gave", h.told(0), 5);
    }

    private static void openOnesThatClosed() {
        PondHouse h = Checks.house("kind a { field n = 0; act k { n = n + 1; } act g { " + Checks.times(30, "do k; ") + "give 1; } }");
        Checks.create(h, "a");
        Checks.same("thirty behind one another", Checks.act(h, 0, "g", 0), 0);
        Checks.same("n", Checks.value(h, 0, "n"), 30);
    }

    /** "What FAILS ends the whole run; what was done stays." */
    private static void failingEndsTheWholeRun() {
        PondHouse h = Checks.house("kind a { field x = 0; static s = 0; act g { x = 1; do f; x = 4; } act f { s = 2; do e; s = 5; } act e { x = x + 2; fail 9; x = 6; } }");
        Checks.create(h, "a");
        Checks.same("g", Checks.act(h, 0, "g", 0), 1);
        Checks.same("with 9", h.told(1), 9);
        Checks.same("gave", h.told(0), 0);
        Checks.same("took", h.told(2), 6);
        Checks.same("x", Checks.value(h, 0, "x"), 3);
        Checks.same("s", h.fixed(Checks.n(h, "a"), Checks.n(h, "s")), 2);
    }

    /** Acts b of 10, c of 50 (with its calls 56), that can be called to take just so many statements. */
    private static String fuelKind(String more) {
        return "kind a { field n = 0; act b { " + Checks.times(9, "n=n+1; ") + "} act c { " + Checks.times(5, "do b; ") + "} " + more + " }";
    }

    /** "FUEL: 500 STATEMENTS a run; one more: the run is SPENT." */
    private static void fuelOfOneBody() {
        // c takes 5 + 5 * 9 = 50, with the do that calls it 51
        PondHouse h = Checks.house(fuelKind("act g { " + Checks.times(9, "do c; ") + Checks.times(41, "n=n; ") + "}"));
        Checks.create(h, "a");
        Checks.same("500", Checks.act(h, 0, "g", 0), 0);
        Checks.same("took", h.told(2), 500);
        h = Checks.house(fuelKind("act g { " + Checks.times(9, "do c; ") + Checks.times(41, "n=n; ") + "n=1000; }"));
        Checks.create(h, "a");
        Checks.same("501", Checks.act(h, 0, "g", 0), 4);
        Checks.same("took", h.told(2), 500);
        Checks.same("gave", h.told(0), 0);
        Checks.same("failed", h.told(1), 0);
        Checks.same("the 501st was not done, the others were", Checks.value(h, 0, "n"), 9 * 45);
        h = Checks.house(fuelKind("act g { " + Checks.times(9, "do c; ") + Checks.times(40, "n=n; ") + "give 7; n=1; }"));
        Checks.create(h, "a");
        Checks.same("give as the 500th", Checks.act(h, 0, "g", 0), 0);
        Checks.same("gave", h.told(0), 7);
        Checks.same("took", h.told(2), 500);
    }

    private static void fuelOfCalls() {
        PondHouse h = Checks.house("kind a { link l; field n = 0; act g { n = n + 1; do f; do f; do f; do f; do f; } act f { do e; do e; do e; do e; do e; } act e { do d; do d; do d; do d; do d; }"
                + " act d { n = n + 1; n = n + 1; n = n + 1; n = n + 1; } }");
        Checks.create(h, "a");
        Checks.same("statements of all bodies count", Checks.act(h, 0, "g", 0), 4);
        Checks.same("took", h.told(2), 500);
        Checks.same("the next run has its own", Checks.act(h, 0, "d", 0), 0);
        Checks.same("took", h.told(2), 4);
        Checks.same("and spends it", Checks.act(h, 0, "g", 0), 4);
        Checks.same("took", h.told(2), 500);
    }

    private static void spentAheadOfAFailure() {
        PondHouse h = Checks.house(fuelKind("act g { " + Checks.times(9, "do c; ") + Checks.times(40, "n=n; ") + "fail 8; }"
                + " act f { " + Checks.times(9, "do c; ") + Checks.times(41, "n=n; ") + "fail 8; }"));
        Checks.create(h, "a");
        Checks.same("fail as the 500th", Checks.act(h, 0, "g", 0), 1);
        Checks.same("failed", h.told(1), 8);
        Checks.same("took", h.told(2), 500);
        Checks.same("fail as the 501st", Checks.act(h, 0, "f", 0), 4);
        Checks.same("failed", h.told(1), 0);
    }

    private static void ifsAreStatements() {
        run("{ if 1 { } }", 0, 0, 0, 0, 1);
        run("{ if 1 { x = 1; } else { x = 2; x = 3; } }", 0, 0, 0, 0, 2);
        run("{ if 0 { x = 1; } else { x = 2; x = 3; } }", 0, 0, 0, 0, 3);
        run("{ if 1 { if 0 { x = 1; } } }", 0, 0, 0, 0, 2);
        run("{ above; }", 0, 0, 0, 0, 1);
        run("{ send l h; }", 0, 1, 0, 1003, 1);
    }

    /** "rest: nothing (but IV)": a statement all the same. */
    private static void restIsNothing() {
        run("{ rest; x = 3; rest; give x; }", 0, 0, 3, 0, 4);
        run("{ rest; }", 0, 0, 0, 0, 1);
        PondHouse h = Checks.house("kind a { field n = 0; act g { rest; n = n + 1; rest; n = n + 10; } }");
        Checks.create(h, "a");
        h.wake(Checks.n(h, "g"));
        h.beat();
        Checks.same("in a beat, too", Checks.value(h, 0, "n"), 11);
    }

    /** "OUTCOMES: 0 done, 1 it FAILED, 2 there is no such ACT, 3 there is no such CREATURE, 4 SPENT." */
    private static void fiveOutcomes() {
        PondHouse h = Checks.house("kind a { field x = 0; act g { } act f { fail 0; } act e { do c; do c; do c; } act c { do d; do d; do d; do d; do d; do d; do d; do d; }"
                + " act d { " + Checks.times(25, "x=x+1; ") + "} } kind b { }");
        Checks.create(h, "a");
        Checks.create(h, "b");
        Checks.same("done", Checks.act(h, 0, "g", 0), 0);
        Checks.same("failed", Checks.act(h, 0, "f", 0), 1);
        Checks.same("no act", Checks.act(h, 1, "g", 0), 2);
        Checks.same("no creature", Checks.act(h, 2, "g", 0), 3);
        Checks.same("spent", Checks.act(h, 0, "e", 0), 4);
    }

    private static void outcomesInOrder() {
        PondHouse h = Checks.house("kind a { field x = 0; act g { } } kind b { act g { } }");
        Checks.create(h, "a");
        Checks.create(h, "b");
        Checks.applies(h, "drop b;");
        for (int name : new int[] {-1, -2, Checks.n(h, "x"), 39, 40, 41, MIN, MAX}) {
            Checks.same("no act " + name, h.act(0, name, 0), 2);
            for (int c : new int[] {-1, -2, 1, 2, 39, 40, 41, MIN, MAX}) {
                Checks.same("neither", h.act(c, name, 0), 3);
            }
        }
        for (int c : new int[] {-1, -2, 1, 2, 39, 40, 41, MIN, MAX}) {
            Checks.same("no creature " + c, Checks.act(h, c, "g", 0), 3);
        }
    }

    /** "Of the latest act(): what 0 what it gave (0 unless done), 1 the number with which it FAILED (0 if not), 2 how many STATEMENTS it took." */
    private static void toldOfTheLatest() {
        PondHouse h = Checks.house("kind a { act g { give 5; } act f { do g; fail 6; } act e { } }");
        Checks.create(h, "a");
        String[] acts = {"g", "f", "e", "g", "nope", "f", "nope", "g", "f", "g"};
        int[][] due = {{5, 0, 1}, {0, 6, 3}, {0, 0, 0}, {5, 0, 1}, {0, 0, 0}, {0, 6, 3}, {0, 0, 0}, {5, 0, 1}, {0, 6, 3}, {5, 0, 1}};
        for (int i = 0; i < acts.length; i++) {
            Checks.act(h, 0, acts[i], 0);
            for (int what = 0; what < 3; what++) {
                Checks.same("told(" + what + ") of " + acts[i], h.told(what), due[i][what]);
            }
        }
        Checks.act(h, 1, "g", 0);
        Checks.same("gave, of no creature", h.told(0), 0);
        Checks.act(h, 0, "f", 0);
        Checks.act(h, -1, "g", 0);
        Checks.same("failed, of no creature", h.told(1), 0);
        Checks.same("took, of no creature", h.told(2), 0);
    }

    /** "0 ahead of any; NONE for another what" */
    private static void toldOfNothing() {
        PondHouse h = Checks.house("kind a { act g { give 5; } }");
        Checks.create(h, "a");
        h.wake(Checks.n(h, "g"));
        h.beat();
        for (int turn = 0; turn < 2; turn++) {
            Checks.same("told(0)", h.told(0), turn * 5);
            Checks.same("told(1)", h.told(1), 0);
            Checks.same("told(2)", h.told(2), turn);
            for (int what : new int[] {MIN, -2, -1, 3, 4, MAX}) {
                Checks.same("told(" + what + ")", h.told(what), -1);
            }
            Checks.act(h, 0, "g", 0);
        }
    }

    /** "FUEL: 500 STATEMENTS a run": the last one still does what it says. */
    private static void fuelOfAssignments() {
        PondHouse h = Checks.house("kind a { field x = 0; static s = 0; act f { " + Checks.times(27, "x = x + 1; s = s - (x - 1); ") + "} act g { "
                + Checks.times(8, "do f; ") + "if x < 433 { do f; } else { } give x * 2 - -1; } }");
        Checks.create(h, "a");
        Checks.same("g", Checks.act(h, 0, "g", 0), 0);
        Checks.same("gave", h.told(0), 2 * 9 * 27 + 1);
        Checks.same("took", h.told(2), 8 + 2 + 9 * 54 + 1);
    }
}
