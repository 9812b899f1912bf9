/** Term IV and promises 19 to 25: beats, what ran in them, long acts; the first, the last, one too many, none. */
public final class BordersOfBeatsTest {
    private static final int MIN = Integer.MIN_VALUE;
    private static final int MAX = Integer.MAX_VALUE;
    private static final int[] FAR = {MIN, -1000, -2, 50, 51, 1000, MAX};

    public static void main(String[] args) {
        wakeOfNames();
        wakeOfNoNames();
        beatsFromOneOn();
        beatsOfManyPonds();
        vIsTheBeat();
        creaturesByNumbers();
        outcomesOfAllSorts();
        outcomeWithoutABeat();
        outcomeOfNoneSuch();
        outcomeOfOneThatEnded();
        outcomeWithoutAnAct();
        ranOfFifty();
        ranOfFortyNine();
        ranTellsFourThings();
        ranOfTheLatestBeat();
        ranOfBodiesThatFailed();
        ranOfLongActs();
        ranOutsideOfBeats();
        tenLongActs();
        theLeastNumber();
        beginOfNothing();
        begunIsNotRun();
        fromRestToRest();
        restsWithinCalls();
        noRestAtAll();
        lastAndVAreKept();
        fuelOfEachRun();
        depthOfEachRun();
        overByFailing();
        overByCalls();
        overByItsCreature();
        allTenOverByTheirCreature();
        behindTheCreatures();
        longActsByNumbers();
        theBodyIsFixed();
        underTellsSixThings();
        underOfNoneSuch();
        aNumberUsedAgain();
        forbidding();
        Checks.endWithCode();
    }

    /** "The ACT of this NAME (NONE: none) is RUN in beats": names are 0 .. 39. */
    private static void wakeOfNames() {
        PondHouse h = Checks.houseOfNames(39);
        Checks.yes("38", h.wake(38));
        Checks.no("39 is none yet", h.wake(39));
        Checks.same("the 40th", Checks.n(h, "zz"), 39);
        Checks.yes("39", h.wake(39));
        Checks.no("40", h.wake(40));
        Checks.yes("0", h.wake(0));
        Checks.yes("NONE", h.wake(-1));
    }

    /** "false for what is no NAME": the one that was told stays. */
    private static void wakeOfNoNames() {
        PondHouse h = Checks.house("kind a { field n = 0; act g { n = n + 1; } }");
        Checks.create(h, "a");
        Checks.yes("wake", h.wake(Checks.n(h, "g")));
        for (int name : new int[] {MIN, -1000, -2, 3, 4, 39, 40, 41, MAX}) {
            Checks.no("wake(" + name + ")", h.wake(name));
        }
        h.beat();
        Checks.same("it stays", Checks.value(h, 0, "n"), 1);
        Checks.yes("a name without an act", h.wake(0));
        h.beat();
        Checks.same("none is called", Checks.value(h, 0, "n"), 1);
    }

    /** "its number, from 1 on" */
    private static void beatsFromOneOn() {
        PondHouse h = new PondHouse();
        for (int i = 1; i <= 500; i++) {
            Checks.same("beat", h.beat(), i);
        }
    }

    private static void beatsOfManyPonds() {
        PondHouse h = new PondHouse();
        Checks.same("without a pond", h.beat(), 1);
        Checks.pond(h, "kind a { }");
        Checks.same("with one", h.beat(), 2);
        Checks.pond(h, "kind a {");
        Checks.same("behind a fault", h.beat(), 3);
        Checks.pond(h, "kind b { }");
        Checks.same("with another", h.beat(), 4);
    }

    /** "with v the number of the beat" */
    private static void vIsTheBeat() {
        PondHouse h = Checks.house("kind a { field n = 0; act g { n = n * 10 + v; } act f { n = n * 10 + v; rest; n = n * 10 + v; } }");
        Checks.create(h, "a");
        h.wake(Checks.n(h, "g"));
        h.beat();
        h.beat();
        h.beat();
        Checks.same("n", Checks.value(h, 0, "n"), 123);
        h.wake(-1);
        h.begin(0, Checks.n(h, "f"), 8);
        h.beat();
        h.beat();
        Checks.same("a long act has its own", Checks.value(h, 0, "n"), 12388);
    }

    /** "for each CREATURE, by numbers" */
    private static void creaturesByNumbers() {
        PondHouse h = Checks.house("kind a { static s = 0; field n = 0; act g { s = s + 1; n = s; } }");
        int a = Checks.n(h, "a");
        int n = Checks.n(h, "n");
        for (int c = 0; c < 40; c++) {
            h.create(a);
        }
        h.wake(Checks.n(h, "g"));
        h.beat();
        for (int c = 0; c < 40; c++) {
            Checks.same("n of " + c, h.value(c, n), c + 1);
            Checks.same("outcome of " + c, h.outcome(c), 0);
            Checks.same("ran", h.ran(c, 0), c);
        }
    }

    /** "The OUTCOME of a CREATURE in the latest BEAT" */
    private static void outcomesOfAllSorts() {
        PondHouse h = Checks.house("kind a { act g { give 1; } } kind b { act g { fail 0; } } kind c { } kind d { field x = 0; act g { do f; do f; do f; do f; do f; do f; do f; do f; do f; }"
                + " act f { " + Checks.times(55, "x=x+1; ") + "} }");
        for (String kind : "abcd".split("")) {
            Checks.create(h, kind);
        }
        h.wake(Checks.n(h, "g"));
        h.beat();
        int[] due = {0, 1, 2, 4};
        for (int c = 0; c < 4; c++) {
            Checks.same("outcome", h.outcome(c), due[c]);
        }
        Checks.act(h, 1, "f", 0);
        Checks.same("act() changes nothing of it", h.outcome(1), 1);
        h.wake(-1);
        Checks.same("nor does wake()", h.outcome(0), 0);
        h.beat();
        Checks.same("the latest one does", h.outcome(0), 2);
    }

    /** "NONE without a BEAT" */
    private static void outcomeWithoutABeat() {
        PondHouse h = Checks.house("kind a { act g { } }");
        Checks.create(h, "a");
        h.wake(Checks.n(h, "g"));
        Checks.act(h, 0, "g", 0);
        Checks.same("without a beat", h.outcome(0), -1);
        h.beat();
        Checks.same("with one", h.outcome(0), 0);
    }

    /** "3 if it was not living then, or not made; NONE .. if there is none such now" */
    private static void outcomeOfNoneSuch() {
        PondHouse h = Checks.house("kind a { act g { } }");
        h.wake(Checks.n(h, "g"));
        Checks.create(h, "a");
        h.beat();
        for (int c : new int[] {MIN, -2, -1, 1, 2, 39, 40, 41, MAX}) {
            Checks.same("none such " + c, h.outcome(c), -1);
        }
        Checks.same("create", Checks.create(h, "a"), 1);
        Checks.same("not made then", h.outcome(1), 3);
        Checks.same("none such", h.outcome(2), -1);
        h.beat();
        Checks.same("made by now", h.outcome(1), 0);
        for (int c = 2; c < 40; c++) {
            Checks.create(h, "a");
        }
        Checks.same("not made then", h.outcome(39), 3);
        Checks.same("none such", h.outcome(40), -1);
        Checks.pond(h, "kind a { act g { } }");
        Checks.same("gone", h.outcome(0), -1);
        Checks.create(h, "a");
        Checks.same("another one", h.outcome(0), 3);
        Checks.same("gone", h.outcome(1), -1);
    }

    private static void outcomeOfOneThatEnded() {
        PondHouse h = Checks.house("kind a { act g { fail 1; } } kind b { act g { } }");
        Checks.create(h, "a");
        Checks.create(h, "b");
        h.wake(Checks.n(h, "g"));
        Checks.applies(h, "drop a;");
        Checks.same("it lived as its turn came", h.outcome(0), 1);
        h.beat();
        Checks.same("it lived no more", h.outcome(0), 3);
        Checks.same("the other", h.outcome(1), 0);
    }

    /** "(OUTCOME 2 if there is none)" */
    private static void outcomeWithoutAnAct() {
        PondHouse h = Checks.house("kind a { field x = 1; act g { } }");
        Checks.create(h, "a");
        h.beat();
        Checks.same("none was told", h.outcome(0), 2);
        for (String name : "a x q".split(" ")) {
            h.wake(Checks.n(h, name));
            h.beat();
            Checks.same("no act " + name, h.outcome(0), 2);
            Checks.same("none ran", h.ran(0, 0), -1);
        }
        h.wake(Checks.n(h, "g"));
        h.beat();
        Checks.same("g", h.outcome(0), 0);
    }

    /** "(the first 50 are kept" */
    private static void ranOfFifty() {
        PondHouse h = Checks.house("kind a { act g { do f; do e; } act f { } act e { } }");
        for (int c = 0; c < 17; c++) {
            Checks.create(h, "a");
        }
        h.wake(Checks.n(h, "g"));
        h.beat();
        for (int i = 0; i < 50; i++) {
            Checks.same("creature of " + i, h.ran(i, 0), i / 3);
            Checks.same("act of " + i, h.ran(i, 1), Checks.n(h, "gfe".substring(i % 3, i % 3 + 1)));
        }
        for (int i : new int[] {50, 51, 52, 100, 1000, MAX, -1, -2, MIN}) {
            Checks.same("ran(" + i + ", 0)", h.ran(i, 0), -1);
        }
        Checks.same("those that are not kept ran, too", h.outcome(16), 0);
    }

    private static void ranOfFortyNine() {
        PondHouse h = Checks.house("kind a { act g { do f; } act f { } } kind b { act g { } }");
        for (int c = 0; c < 24; c++) {
            Checks.create(h, "a");
        }
        Checks.create(h, "b");
        h.wake(Checks.n(h, "g"));
        h.beat();
        Checks.same("the 49th", h.ran(48, 0), 24);
        Checks.same("no 50th", h.ran(49, 0), -1);
        Checks.create(h, "b");
        h.beat();
        Checks.same("the 50th", h.ran(49, 0), 25);
        Checks.same("no 51st", h.ran(50, 0), -1);
    }

    /** "what 0 the CREATURE, 1 the ACT's NAME, 2 the KIND's where it was found, 3 its GENERATION. NONE if there is none such." */
    private static void ranTellsFourThings() {
        PondHouse h = Checks.house("kind a { act g { } act f { } } kind b under a { act g { above; do f; } }");
        Checks.create(h, "a");
        Checks.create(h, "b");
        Checks.applies(h, "change b { }");
        h.wake(Checks.n(h, "g"));
        h.beat();
        int a = Checks.n(h, "a");
        int b = Checks.n(h, "b");
        int g = Checks.n(h, "g");
        int f = Checks.n(h, "f");
        int[][] due = {{0, g, a, 0}, {1, g, b, 1}, {1, g, a, 0}, {1, f, a, 0}};
        for (int i = 0; i < 4; i++) {
            for (int what = 0; what < 4; what++) {
                Checks.same("ran(" + i + ", " + what + ")", h.ran(i, what), due[i][what]);
            }
            Checks.same("ran(i, -1)", h.ran(i, -1), -1);
            Checks.same("ran(i, 4)", h.ran(i, 4), -1);
            for (int what : FAR) {
                Checks.same("ran(i, far)", h.ran(i, what), -1);
            }
        }
        Checks.same("no fifth", h.ran(4, 0), -1);
        for (int i : FAR) {
            Checks.same("ran(far, 0)", h.ran(i, 0), -1);
        }
    }

    /** "in the latest BEAT .. (a pond told since changes nothing of it)" */
    private static void ranOfTheLatestBeat() {
        PondHouse h = Checks.house("kind a { act g { do f; } act f { } }");
        Checks.create(h, "a");
        Checks.same("without a beat", h.ran(0, 0), -1);
        h.wake(Checks.n(h, "g"));
        h.beat();
        Checks.same("f", h.ran(1, 1), Checks.n(h, "f"));
        Checks.pond(h, "kind b {");
        Checks.same("behind a fault", h.ran(1, 1), Checks.n(h, "f"));
        Checks.pond(h, "kind b { act g { } }");
        Checks.same("behind a pond", h.ran(1, 1), Checks.n(h, "f"));
        Checks.same("its kind", h.ran(1, 2), Checks.n(h, "a"));
        Checks.same("no third", h.ran(2, 0), -1);
        h.beat();
        Checks.same("a beat without any", h.ran(0, 0), -1);
    }

    private static void ranOfBodiesThatFailed() {
        PondHouse h = Checks.house("kind a { act g { do f; do nope; } act f { do e; } act e { fail 1; } } kind b { act g { do nope; } }");
        Checks.create(h, "a");
        Checks.create(h, "b");
        h.wake(Checks.n(h, "g"));
        h.beat();
        String[] due = {"g", "f", "e", "g"};
        for (int i = 0; i < due.length; i++) {
            Checks.same("act", h.ran(i, 1), Checks.n(h, due[i]));
        }
        Checks.same("what is not there was not begun", h.ran(4, 0), -1);
        PondHouse o = Checks.house("kind a { act g { } act f { } } kind b under a { act g { fail 1; above; do f; } } kind c under a { act g { give 1; above; do f; } }");
        Checks.create(o, "b");
        Checks.create(o, "c");
        o.wake(Checks.n(o, "g"));
        o.beat();
        Checks.same("g of b", o.ran(0, 2), Checks.n(o, "b"));
        Checks.same("g of c", o.ran(1, 2), Checks.n(o, "c"));
        Checks.same("nothing behind fail and give", o.ran(2, 0), -1);
    }

    /** What can't be called ends a long act, too, wherever it would rest. */
    private static void overByCalls() {
        for (String call : new String[] {"send l f;", "send n g;", "do nope;", "send l nope;", "x = q;"}) {
            PondHouse h = Checks.house("kind a { link l; field n = 0; field x = 0; act g { " + call + " rest; x = 1; } act f { } }");
            Checks.create(h, "a");
            h.put(0, Checks.n(h, "n"), 7);
            h.put(0, Checks.n(h, "l"), call.contains("nope") ? 0 : 5);
            h.begin(0, Checks.n(h, "g"), 0);
            h.beat();
            Checks.same("over by " + call, h.under(0, 0), 0);
            Checks.same("failed by " + call, h.under(0, 2), 1);
            h.beat();
            Checks.same("x", Checks.value(h, 0, "x"), 0);
        }
    }

    /** A long act's own body was begun by begin(); those that it calls are begun in the beat. */
    private static void ranOfLongActs() {
        PondHouse h = Checks.house("kind a { act g { do f; rest; do f; } act f { } }");
        Checks.create(h, "a");
        h.begin(0, Checks.n(h, "g"), 0);
        for (int turn = 0; turn < 2; turn++) {
            h.beat();
            Checks.same("f alone", h.ran(0, 1), Checks.n(h, "f"));
            Checks.same("no second", h.ran(1, 0), -1);
        }
        h.beat();
        Checks.same("it is over", h.ran(0, 0), -1);
    }

    private static void ranOutsideOfBeats() {
        PondHouse h = Checks.house("kind a { act g { do f; } act f { } }");
        Checks.create(h, "a");
        Checks.act(h, 0, "g", 0);
        Checks.same("ahead of any beat", h.ran(0, 0), -1);
        h.wake(Checks.n(h, "f"));
        h.beat();
        Checks.act(h, 0, "g", 0);
        Checks.same("f of the beat", h.ran(0, 1), Checks.n(h, "f"));
        Checks.same("none of act()", h.ran(1, 0), -1);
    }

    /** "LONG ACTS 0 .. 9", "or ten are under way" */
    private static void tenLongActs() {
        PondHouse h = Checks.house("kind a { act g { rest; } act f { rest; rest; } }");
        Checks.create(h, "a");
        Checks.create(h, "a");
        int g = Checks.n(h, "g");
        for (int l = 0; l < 10; l++) {
            Checks.same("none yet", h.under(l, 0), -1);
            Checks.same("begin", h.begin(l % 2, g, 0), l);
            Checks.same("under way", h.under(l, 0), 1);
        }
        Checks.same("the 11th", h.begin(0, g, 0), -1);
        Checks.same("of another", h.begin(1, Checks.n(h, "f"), 0), -1);
        Checks.same("under(10)", h.under(10, 0), -1);
        h.beat();
        Checks.same("all rest", h.begin(0, g, 0), -1);
        h.beat();
        for (int l = 0; l < 10; l++) {
            Checks.same("over", h.under(l, 0), 0);
        }
        Checks.same("room again", h.begin(0, g, 0), 0);
    }

    /** "the least that is not under way" */
    private static void theLeastNumber() {
        PondHouse h = Checks.house("kind a { act s { } act g { rest; } act f { rest; rest; rest; } }");
        Checks.create(h, "a");
        int g = Checks.n(h, "g");
        int f = Checks.n(h, "f");
        for (int l = 0; l < 10; l++) {
            Checks.same("begin", h.begin(0, l == 3 || l == 7 || l == 9 ? g : f, 0), l);
        }
        h.beat();
        h.beat();
        Checks.same("3 is over", h.begin(0, f, 0), 3);
        Checks.same("7 is over", h.begin(0, f, 0), 7);
        Checks.same("9 is over", h.begin(0, f, 0), 9);
        Checks.same("no more", h.begin(0, f, 0), -1);
    }

    /** "NONE: no such living CREATURE, no such ACT" */
    private static void beginOfNothing() {
        PondHouse h = Checks.house("kind a { field x = 0; act g { } } kind b { act g { } }");
        Checks.create(h, "a");
        Checks.create(h, "b");
        Checks.applies(h, "drop b;");
        int g = Checks.n(h, "g");
        for (int c : new int[] {MIN, -2, -1, 1, 2, 39, 40, 41, MAX}) {
            Checks.same("begin(" + c + ")", h.begin(c, g, 0), -1);
        }
        for (int name : new int[] {MIN, -2, -1, Checks.n(h, "x"), Checks.n(h, "a"), 38, 39, 40, 41, MAX}) {
            Checks.same("begin of act " + name, h.begin(0, name, 0), -1);
        }
        Checks.same("none was begun", h.under(0, 0), -1);
        Checks.same("begin", h.begin(0, g, 0), 0);
    }

    private static void begunIsNotRun() {
        PondHouse h = Checks.house("kind a { field x = 0; act g { x = x + 1; } }");
        Checks.create(h, "a");
        Checks.same("begin", h.begin(0, Checks.n(h, "g"), 0), 0);
        Checks.same("x", Checks.value(h, 0, "x"), 0);
        Checks.same("no run", h.under(0, 1), 0);
        h.beat();
        Checks.same("x", Checks.value(h, 0, "x"), 1);
        Checks.same("a run", h.under(0, 1), 1);
        Checks.same("over", h.under(0, 0), 0);
        h.beat();
        Checks.same("no more", Checks.value(h, 0, "x"), 1);
        Checks.same("one run", h.under(0, 1), 1);
    }

    /** "from where it RESTS to the next rest of its own BLOCK, or to the end" */
    private static void fromRestToRest() {
        PondHouse h = Checks.house("kind a { field x = 0; act g { rest; rest; x = x + 1; rest; x = x + 10; if 1 { x = x + 100; } rest; } }");
        Checks.create(h, "a");
        Checks.same("begin", h.begin(0, Checks.n(h, "g"), 0), 0);
        int[] due = {0, 0, 1, 111, 111};
        for (int i = 0; i < 5; i++) {
            h.beat();
            Checks.same("x", Checks.value(h, 0, "x"), due[i]);
            Checks.same("under way", h.under(0, 0), i < 4 ? 1 : 0);
            Checks.same("runs", h.under(0, 1), i + 1);
        }
        Checks.same("done", h.under(0, 2), 0);
    }

    /** "(a rest within a call of it is nothing)" */
    private static void restsWithinCalls() {
        PondHouse h = Checks.house("kind a { link l; field x = 0; act g { rest; x = x + 1; rest; x = x + 10; rest; } }"
                + " kind b under a { act g { above; x = x + 100; } act f { do g; x = x + 1000; send l g; } }");
        Checks.create(h, "b");
        h.put(0, Checks.n(h, "l"), 0);
        h.begin(0, Checks.n(h, "g"), 0);
        h.beat();
        Checks.same("by above", Checks.value(h, 0, "x"), 111);
        Checks.same("over", h.under(0, 0), 0);
        h.begin(0, Checks.n(h, "f"), 0);
        h.beat();
        Checks.same("by do and send", Checks.value(h, 0, "x"), 111 + 111 + 1000 + 111);
        Checks.same("over", h.under(0, 0), 0);
    }

    private static void noRestAtAll() {
        PondHouse h = Checks.house("kind a { act g { } act f { give 8; rest; } act e { if v { give 9; } rest; give 3; } }");
        Checks.create(h, "a");
        h.begin(0, Checks.n(h, "g"), 0);
        h.begin(0, Checks.n(h, "f"), 0);
        h.begin(0, Checks.n(h, "e"), 1);
        h.begin(0, Checks.n(h, "e"), 0);
        h.beat();
        int[] way = {0, 0, 0, 1};
        int[] gave = {0, 8, 9, 0};
        for (int l = 0; l < 4; l++) {
            Checks.same("under way", h.under(l, 0), way[l]);
            Checks.same("runs", h.under(l, 1), 1);
            Checks.same("gave", h.under(l, 5), gave[l]);
        }
    }

    /** "last is kept" */
    private static void lastAndVAreKept() {
        PondHouse h = Checks.house("kind a { field x = 0; act g { x = last; rest; do f; rest; x = x * 10 + last; rest; above; rest; x = x * 10 + last; rest; give v; } act f { give 4; } }");
        Checks.create(h, "a");
        h.begin(0, Checks.n(h, "g"), MIN);
        for (int i = 0; i < 6; i++) {
            Checks.act(h, 0, "f", 0);
            h.beat();
        }
        Checks.same("x", Checks.value(h, 0, "x"), 40);
        Checks.same("over", h.under(0, 0), 0);
        Checks.same("v", h.under(0, 5), MIN);
    }

    /** "a run of its own": 500 STATEMENTS each, the rest among them. */
    private static void fuelOfEachRun() {
        String kind = "kind a { field n = 0; act b { " + Checks.times(9, "n=n+1; ") + "} act c { " + Checks.times(5, "do b; ") + "} act s { " + Checks.times(8, "do c; ") + "} ";
        // s takes 8 + 8 * 50 = 408, with the do 409; c 50, with the do 51; b 9, with the do 10
        String ninety = "do c; " + Checks.times(3, "do b; ");
        PondHouse h = Checks.house(kind + "act g { do s; " + ninety + Checks.times(9, "n=n; ") + "rest; do s; " + ninety + Checks.times(9, "n=n; ") + "rest; give 5; } }");
        Checks.create(h, "a");
        h.begin(0, Checks.n(h, "g"), 0);
        for (int i = 1; i <= 2; i++) {
            h.beat();
            Checks.same("500 with the rest", h.under(0, 0), 1);
            Checks.same("runs", h.under(0, 1), i);
        }
        h.beat();
        Checks.same("done", h.under(0, 2), 0);
        Checks.same("gave", h.under(0, 5), 5);
        h = Checks.house(kind + "act g { do s; " + ninety + Checks.times(10, "n=n; ") + "rest; give 5; } }");
        Checks.create(h, "a");
        h.begin(0, Checks.n(h, "g"), 0);
        h.beat();
        Checks.same("the rest is the 501st", h.under(0, 0), 0);
        Checks.same("spent", h.under(0, 2), 4);
        Checks.same("runs", h.under(0, 1), 1);
    }

    /** "a run of its own": 20 calls open each. */
    private static void depthOfEachRun() {
        // 20 calls are open with n at 20
        PondHouse h = Checks.house("kind a { field n = 0; act g { do e; rest; n = 0; do e; rest; n = -1; do e; } act e { n = n + 1; if n < 20 { do e; } } }");
        Checks.create(h, "a");
        h.begin(0, Checks.n(h, "g"), 0);
        h.beat();
        Checks.same("twenty are open", h.under(0, 0), 1);
        h.beat();
        Checks.same("again twenty", h.under(0, 0), 1);
        h.beat();
        Checks.same("the 21st fails", h.under(0, 2), 1);
        Checks.same("n", Checks.value(h, 0, "n"), 19);
    }

    /** "It is over with its end, if it FAILS or is SPENT" */
    private static void overByFailing() {
        PondHouse h = Checks.house("kind a { field x = 0; act g { rest; x = x + 1; fail 5; rest; x = 9; } act f { rest; give 1 / 0; } act e { rest; do d; do d; do d; do d; do d; do d; do d; do d; do d; do d; }"
                + " act d { " + Checks.times(50, "x=x; ") + "} }");
        Checks.create(h, "a");
        int[] due = {1, 1, 4};
        for (int l = 0; l < 3; l++) {
            Checks.same("begin", h.begin(0, Checks.n(h, "gfe".substring(l, l + 1)), 0), l);
        }
        h.beat();
        for (int l = 0; l < 3; l++) {
            Checks.same("under way", h.under(l, 0), 1);
            Checks.same("outcome as yet", h.under(l, 2), 0);
        }
        h.beat();
        h.beat();
        for (int l = 0; l < 3; l++) {
            Checks.same("over", h.under(l, 0), 0);
            Checks.same("runs", h.under(l, 1), 2);
            Checks.same("outcome", h.under(l, 2), due[l]);
            Checks.same("gave", h.under(l, 5), 0);
        }
        Checks.same("x", Checks.value(h, 0, "x"), 1);
    }

    /** "and at once if its CREATURE ENDS" */
    private static void overByItsCreature() {
        PondHouse h = Checks.house("kind a { act g { rest; rest; rest; rest; } } kind b under a { }");
        Checks.create(h, "a");
        Checks.create(h, "b");
        h.begin(1, Checks.n(h, "g"), 0);
        h.begin(0, Checks.n(h, "g"), 0);
        Checks.applies(h, "drop b;");
        Checks.same("over", h.under(0, 0), 0);
        Checks.same("its one run", h.under(0, 1), 1);
        Checks.same("outcome", h.under(0, 2), 3);
        Checks.same("gave", h.under(0, 5), 0);
        Checks.no("forbid", h.forbid(0, true));
        Checks.same("the other goes on", h.under(1, 0), 1);
        Checks.applies(h, "kind c under a { }");
        Checks.create(h, "c");
        Checks.same("its number is free", h.begin(2, Checks.n(h, "g"), 0), 0);
        Checks.yes("back", h.back());
        Checks.same("over at once", h.under(0, 0), 0);
        Checks.same("without a run", h.under(0, 1), 0);
        Checks.same("outcome", h.under(0, 2), 3);
        Checks.same("the other goes on", h.under(1, 0), 1);
    }

    private static void allTenOverByTheirCreature() {
        PondHouse h = Checks.house("kind a { act g { rest; rest; rest; rest; } } kind b under a { }");
        Checks.create(h, "b");
        for (int l = 0; l < 10; l++) {
            Checks.same("begin", h.begin(0, Checks.n(h, "g"), 0), l);
        }
        Checks.applies(h, "drop b;");
        for (int l = 0; l < 10; l++) {
            Checks.same("over", h.under(l, 0), 0);
            Checks.same("outcome", h.under(l, 2), 3);
        }
    }

    /** "At each beat, behind the CREATURES" */
    private static void behindTheCreatures() {
        PondHouse h = Checks.house("kind a { static s = 1; act g { s = s * 10; rest; s = s * 10; } act w { s = s + 1; } }");
        Checks.create(h, "a");
        Checks.create(h, "a");
        h.wake(Checks.n(h, "w"));
        h.begin(0, Checks.n(h, "g"), 0);
        h.beat();
        Checks.same("(1 + 2) * 10", h.fixed(Checks.n(h, "a"), Checks.n(h, "s")), 30);
        h.beat();
        Checks.same("(30 + 2) * 10", h.fixed(Checks.n(h, "a"), Checks.n(h, "s")), 320);
    }

    /** "by numbers" */
    private static void longActsByNumbers() {
        PondHouse h = Checks.house("kind a { static s = 0; act g { s = s * 10 + v; rest; s = s * 10 + v; } act f { } }");
        Checks.create(h, "a");
        Checks.create(h, "a");
        h.begin(1, Checks.n(h, "f"), 0);
        h.begin(1, Checks.n(h, "g"), 1);
        h.begin(0, Checks.n(h, "g"), 2);
        h.beat();
        h.begin(0, Checks.n(h, "g"), 3);
        h.beat();
        Checks.same("s", h.fixed(Checks.n(h, "a"), Checks.n(h, "s")), 12312);
    }

    /** "the BODY is fixed then, with the KIND it was found at, in its GENERATION" */
    private static void theBodyIsFixed() {
        PondHouse h = Checks.house("kind a { act g { rest; rest; give 1; } } kind b under a { }");
        Checks.create(h, "b");
        h.begin(0, Checks.n(h, "g"), 0);
        Checks.applies(h, "change a { act g { rest; rest; give 2; } }");
        h.begin(0, Checks.n(h, "g"), 0);
        Checks.applies(h, "change a { drop g; }");
        Checks.same("no act more", h.begin(0, Checks.n(h, "g"), 0), -1);
        h.beat();
        Checks.same("the first body", h.under(0, 5), 1);
        Checks.same("its generation", h.under(0, 3), 0);
        h.beat();
        Checks.same("the second body", h.under(1, 5), 2);
        Checks.same("its generation", h.under(1, 3), 1);
    }

    /** "what 0: 1 under way, else 0; 1 how many runs it had; 2 its OUTCOME; 3 the GENERATION of its BODY; 4 1 if it FORBIDS; 5 what it gave" */
    private static void underTellsSixThings() {
        PondHouse h = Checks.house("kind a { act g { rest; give v; } }");
        Checks.create(h, "a");
        Checks.applies(h, "change a { }");
        h.begin(0, Checks.n(h, "g"), MAX);
        int[][] due = {{1, 0, 0, 1, 0, 0}, {1, 1, 0, 1, 1, 0}, {0, 2, 0, 1, 1, MAX}};
        for (int turn = 0; turn < 3; turn++) {
            for (int what = 0; what < 6; what++) {
                Checks.same("under(0, " + what + ")", h.under(0, what), due[turn][what]);
            }
            for (int what : new int[] {MIN, -2, -1, 6, 7, MAX}) {
                Checks.same("under(0, far)", h.under(0, what), -1);
            }
            if (turn == 0) {
                Checks.yes("forbid", h.forbid(0, true));
            }
            h.beat();
        }
    }

    /** "NONE if there was none such" */
    private static void underOfNoneSuch() {
        PondHouse h = Checks.house("kind a { act g { rest; } }");
        Checks.create(h, "a");
        for (int turn = 0; turn < 2; turn++) {
            for (int l : new int[] {MIN, -2, -1, 1, 9, 10, 11, MAX}) {
                for (int what = 0; what < 6; what++) {
                    Checks.same("under(" + l + ", " + what + ")", h.under(l, what), -1);
                }
            }
            h.begin(0, Checks.n(h, "g"), 0);
        }
        Checks.same("that was one", h.under(1, 0), 1);
    }

    /** "as it is or was last" */
    private static void aNumberUsedAgain() {
        PondHouse h = Checks.house("kind a { act g { rest; give 7; } act f { fail 1; } }");
        Checks.create(h, "a");
        h.begin(0, Checks.n(h, "g"), 0);
        h.forbid(0, true);
        h.beat();
        h.beat();
        int[] last = {0, 2, 0, 0, 1, 7};
        int[] anew = {1, 0, 0, 0, 0, 0};
        for (int what = 0; what < 6; what++) {
            Checks.same("as it was last", h.under(0, what), last[what]);
        }
        Checks.same("begin", h.begin(0, Checks.n(h, "f"), 0), 0);
        for (int what = 0; what < 6; what++) {
            Checks.same("as it is", h.under(0, what), anew[what]);
        }
        h.beat();
        Checks.same("failed", h.under(0, 2), 1);
        Checks.same("gave", h.under(0, 5), 0);
    }

    /** "A LONG ACT under way FORBIDS (at first not), or not: true; false if there is none such under way." */
    private static void forbidding() {
        PondHouse h = Checks.house("kind a { act g { rest; rest; } }");
        Checks.create(h, "a");
        Checks.no("none yet", h.forbid(0, true));
        for (int l = 0; l < 10; l++) {
            h.begin(0, Checks.n(h, "g"), 0);
            Checks.same("at first not", h.under(l, 4), 0);
        }
        for (int l : new int[] {0, 9}) {
            Checks.yes("forbid", h.forbid(l, true));
            Checks.yes("forbid again", h.forbid(l, true));
            Checks.same("it does", h.under(l, 4), 1);
            Checks.yes("not", h.forbid(l, false));
            Checks.same("it does not", h.under(l, 4), 0);
        }
        for (int l : new int[] {MIN, -2, -1, 10, 11, MAX}) {
            Checks.no("forbid(" + l + ")", h.forbid(l, true));
            Checks.no("forbid(" + l + ")", h.forbid(l, false));
        }
        h.beat();
        Checks.yes("as it rests", h.forbid(9, true));
        h.beat();
        h.beat();
        Checks.no("as it is over", h.forbid(9, false));
        Checks.no("as it is over", h.forbid(0, true));
    }
}
