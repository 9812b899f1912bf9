/** Promises 1 to 16 and 30, and term II of kinds and creatures: the least, the most, nothing, and what is refused. */
public final class BordersOfPondsTest {
    private static final int MIN = Integer.MIN_VALUE;
    private static final int MAX = Integer.MAX_VALUE;
    private static final int[] FAR = {MIN, MIN + 1, -1000, -41, -2, 1000, 1001, 65536, MAX - 1, MAX};

    public static void main(String[] args) {
        aNewObjectHasNothing();
        aNewObjectRefusesAll();
        feedFillsAThousandBytes();
        feedBringsAllOrNothing();
        feedTakesTheHighestFirst();
        endKeepsTheFirst();
        wordEmptiesTheTape();
        pondEmptiesTheTape();
        pondLetsAllGo();
        pondLetsFullRowsGo();
        pondCallsNoAct();
        pondForgetsWhatIsLost();
        pondWithAFaultChangesNothing();
        patchNumbersAndFaults();
        faultIsOfTheLatest();
        twelveKinds();
        twelveKindsInOneChain();
        thirteenKinds();
        membersOfItsOwn();
        membersInAnyOrder();
        tooManyMembers();
        twiceTheSameKind();
        twiceTheSameMember();
        underWhatIsNotThere();
        whatAKindAboveHas();
        anActMayBeInSeveral();
        kindTellsSixThings();
        fortyCreatures();
        theFortiethNameIsAField();
        theFortiethNameIsAStatic();
        theFortiethNameIsAnAct();
        endedOnesKeepTheirNumbers();
        noKindOfThatName();
        firstValues();
        onlyTheLivingAnswer();
        namesThatAreNoFields();
        putOfAnyNumber();
        valueOfWhatIsLost();
        fixedOfTheNearest();
        fixedOfNothing();
        sumsBeyondInts();
        sumsOfTheLivingAlone();
        Checks.endWithCode();
    }

    /** "No KINDS, no NAMES, an empty tape." */
    private static void aNewObjectHasNothing() {
        PondHouse h = new PondHouse();
        Checks.same("kinds", h.kinds(), 0);
        Checks.no("a byte on the tape", h.end(1));
        Checks.yes("none", h.end(0));
        Checks.no("wake the first name", h.wake(0));
        Checks.yes("wake none", h.wake(-1));
        Checks.same("word", h.word(), -1);
        Checks.same("pond", h.pond(), -1);
        Checks.same("fault", h.fault(0), 1);
        Checks.same("place", h.fault(1), 0);
        Checks.same("patch", h.patch(), -1);
        Checks.same("fault", h.fault(0), 1);
        Checks.same("place", h.fault(1), 0);
        Checks.same("a beat of nothing", h.beat(), 1);
        Checks.same("none ran", h.ran(0, 0), -1);
        Checks.same("the first name", Checks.n(h, "z"), 0);
        Checks.yes("wake the first name", h.wake(0));
        Checks.no("wake the second", h.wake(1));
    }

    private static void aNewObjectRefusesAll() {
        PondHouse h = new PondHouse();
        for (int n : new int[] {MIN, -2, -1, 0, 1, 6, 40, MAX}) {
            Checks.same("fault", h.fault(n), n == 0 ? 0 : -1);
            Checks.same("kind", h.kind(n, 0), -1);
            Checks.same("kind", h.kind(0, n), -1);
            Checks.same("create", h.create(n), -1);
            Checks.same("kindOf", h.kindOf(n), -1);
            Checks.same("generation", h.generation(n), -1);
            Checks.no("has", h.has(n, 0));
            Checks.no("has", h.has(0, n));
            Checks.same("value", h.value(n, 0), 0);
            Checks.same("value", h.value(0, n), 0);
            Checks.no("put", h.put(n, 0, 1));
            Checks.no("put", h.put(0, n, 1));
            Checks.same("fixed", h.fixed(n, 0), 0);
            Checks.same("fixed", h.fixed(0, n), 0);
            Checks.same("act", h.act(n, 0, 1), 3);
            Checks.same("act", h.act(0, n, 1), 3);
            Checks.same("told", h.told(n), n == 0 || n == 1 ? 0 : -1);
            Checks.same("outcome", h.outcome(n), -1);
            Checks.same("ran", h.ran(n, 0), -1);
            Checks.same("ran", h.ran(0, n), -1);
            Checks.same("begin", h.begin(n, 0, 1), -1);
            Checks.same("begin", h.begin(0, n, 1), -1);
            Checks.same("under", h.under(n, 0), -1);
            Checks.same("under", h.under(0, n), -1);
            Checks.no("forbid", h.forbid(n, true));
            Checks.no("apply", h.apply(n));
            Checks.same("applied", h.applied(n), -1);
            Checks.same("refusal", h.refusal(n), n == 0 ? 0 : -1);
            Checks.same("sum", h.sum(n), 0);
        }
        Checks.same("told(2)", h.told(2), 0);
        Checks.same("refusal(2)", h.refusal(2), -1);
        Checks.no("back", h.back());
    }

    /** "Twenty bytes come behind the TAPE .. how many it has. NONE .. if there would be more than 1000." */
    private static void feedFillsAThousandBytes() {
        PondHouse h = new PondHouse();
        for (int i = 1; i <= 50; i++) {
            Checks.same("feed", h.feed(0, 0, 0, 0, 0), 20 * i);
        }
        Checks.same("1020", h.feed(0, 0, 0, 0, 0), -1);
        for (int n = 999; n > 980; n--) {
            Checks.yes("end", h.end(n));
            Checks.same("feed behind " + n, h.feed(0, 0, 0, 0, 0), -1);
            Checks.no("nothing came", h.end(n + 1));
        }
        Checks.yes("end", h.end(980));
        Checks.same("feed behind 980", h.feed(0, 0, 0, 0, 0), 1000);
        Checks.same("1020", h.feed(0, 0, 0, 0, 0), -1);
        Checks.yes("end", h.end(1000));
    }

    /** "NONE, and nothing comes" */
    private static void feedBringsAllOrNothing() {
        PondHouse h = new PondHouse();
        Checks.tape(h, "abc" + Checks.times(987, " "));
        int z = 'z' << 24 | 'z' << 16 | 'z' << 8 | 'z';
        Checks.same("no room for twenty", h.feed(z, z, z, z, z), -1);
        Checks.no("no 991st byte", h.end(991));
        Checks.yes("990", h.end(990));
        Checks.same("the name alone", h.word(), 0);
        Checks.same("it is abc", Checks.n(h, "abc"), 0);
    }

    /** "of each number the highest first" */
    private static void feedTakesTheHighestFirst() {
        PondHouse h = new PondHouse();
        int blanks = 0x20202020;
        int letter = 'a';
        for (int place = 0; place < 20; place++) {
            int[] five = {blanks, blanks, blanks, blanks, blanks};
            int shift = 24 - 8 * (place % 4);
            five[place / 4] = blanks & ~(255 << shift) | letter << shift;
            Checks.same("feed", h.feed(five[0], five[1], five[2], five[3], five[4]), 20);
            Checks.yes("the letter is there", h.end(place + 1));
            Checks.same("the letter at " + place, h.word(), 0);
            h.feed(five[0], five[1], five[2], five[3], five[4]);
            Checks.yes("it is not ahead", h.end(place));
            Checks.same("no letter ahead of " + place, h.word(), -1);
        }
        Checks.same("feed", h.feed(0x61626364, 0x65662020, blanks, blanks, blanks), 20);
        Checks.same("over two numbers", h.word(), 1);
        Checks.same("abcdef", Checks.n(h, "abcdef"), 1);
        Checks.same("feed", h.feed(0x64726f70, 0x20613b20, blanks, blanks, 0x202020ff), 20);
        Checks.same("the byte 255", h.patch(), -1);
        Checks.same("its place", h.fault(1), 19);
        Checks.same("feed", h.feed(0x80726f70, 0x20613b20, blanks, blanks, blanks), 20);
        Checks.same("the byte 128", h.patch(), -1);
        Checks.same("its place", h.fault(1), 0);
    }

    /** "The TAPE has its first n bytes alone: true; false, changing nothing, if it has not so many, or n is below 0." */
    private static void endKeepsTheFirst() {
        PondHouse h = new PondHouse();
        Checks.yes("none of none", h.end(0));
        Checks.no("one of none", h.end(1));
        Checks.tape(h, "abc");
        Checks.no("four of three", h.end(4));
        for (int n : FAR) {
            Checks.no("end(" + n + ")", h.end(n));
        }
        Checks.no("end(-1)", h.end(-1));
        Checks.yes("three of three", h.end(3));
        Checks.yes("two of three", h.end(2));
        Checks.no("three of two", h.end(3));
        Checks.same("ab", h.word(), 0);
        Checks.same("abc is another", Checks.n(h, "abc"), 1);
        Checks.same("it was ab", Checks.n(h, "ab"), 0);
        Checks.tape(h, "abc");
        Checks.yes("none of three", h.end(0));
        Checks.no("one of none", h.end(1));
        Checks.same("a feed behind it is the first", h.feed(0x61626320, 0x20202020, 0x20202020, 0x20202020, 0x20202020), 20);
        Checks.same("abc", h.word(), 1);
    }

    /** "The TAPE, empty then, as one NAME": with a number or none. */
    private static void wordEmptiesTheTape() {
        PondHouse h = new PondHouse();
        for (String text : new String[] {"a", "", " ", "a b", "1", "kind", "abcdefg", "\u00ff", ";"}) {
            Checks.tape(h, text);
            h.word();
            Checks.no("a byte behind word of " + text, h.end(1));
            Checks.same("nothing is left", h.word(), -1);
        }
    }

    private static void pondEmptiesTheTape() {
        PondHouse h = new PondHouse();
        for (String text : new String[] {"kind a { }", "", "kind a {", "\u00ff", "kind a under b { }", "drop a;"}) {
            Checks.pond(h, text);
            Checks.no("a byte behind pond of " + text, h.end(1));
            Checks.patch(h, text);
            Checks.no("a byte behind patch of " + text, h.end(1));
        }
    }

    private static final String BUSY = "kind a { field x = 1; static s = 2; act g { x = x + 1; s = s + 1; rest; x = x + 10; rest; x = x + 100; } }"
            + " kind b under a { field y = 3; }";

    /** A house with a patch applied, one waiting, a long act, a woken act, something lost, 4 beats. */
    private static PondHouse busyHouse() {
        PondHouse h = Checks.house(BUSY);
        Checks.create(h, "a");
        Checks.create(h, "b");
        Checks.applies(h, "change b { drop y; field z = 4; }");
        Checks.yes("wake", h.wake(Checks.n(h, "g")));
        Checks.same("begin", h.begin(1, Checks.n(h, "g"), 0), 0);
        Checks.same("beat", h.beat(), 2);
        Checks.yes("forbid", h.forbid(0, true));
        Checks.same("patch", Checks.patch(h, "change a { field w = 5; }"), 1);
        Checks.yes("apply", h.apply(1));
        return h;
    }

    /** "all CREATURES, PATCHES, LONG ACTS are gone, GENERATIONS begin at 0" */
    private static void pondLetsAllGo() {
        PondHouse h = busyHouse();
        int x = Checks.n(h, "x");
        Checks.same("pond", Checks.pond(h, BUSY), 2);
        for (int c = 0; c < 3; c++) {
            Checks.same("kindOf", h.kindOf(c), -1);
            Checks.same("outcome", h.outcome(c), -1);
        }
        Checks.same("sum", h.sum(x), 0);
        Checks.same("patch 0", h.applied(0), -1);
        Checks.same("patch 1", h.applied(1), -1);
        Checks.no("apply", h.apply(0));
        Checks.no("back", h.back());
        Checks.same("long act", h.under(0, 0), -1);
        Checks.no("forbid", h.forbid(0, true));
        Checks.same("generation of a", h.kind(0, 2), 0);
        Checks.same("generation of b", h.kind(1, 2), 0);
        Checks.same("the static is as told", h.fixed(Checks.n(h, "a"), Checks.n(h, "s")), 2);
        Checks.same("create", Checks.create(h, "b"), 0);
        Checks.same("nothing is lost", Checks.value(h, 0, "z"), 0);
        Checks.same("generation", h.generation(0), 0);
        Checks.same("the patch that waited is gone", h.beat(), 3);
        Checks.no("w", Checks.has(h, 0, "w"));
        Checks.same("the long act is gone", h.value(0, x), 1);
        Checks.same("none waits", Checks.patch(h, "change a { }"), 0);
        Checks.same("applied", Checks.make(h, 0), 2);
        Checks.same("the first generation", h.generation(0), 1);
    }

    private static void pondLetsFullRowsGo() {
        PondHouse h = Checks.house("kind a { act g { rest; rest; rest; } }");
        int a = Checks.n(h, "a");
        int g = Checks.n(h, "g");
        for (int turn = 0; turn < 2; turn++) {
            for (int c = 0; c < 40; c++) {
                Checks.same("create", h.create(a), c);
            }
            Checks.same("the 41st", h.create(a), -1);
            for (int l = 0; l < 10; l++) {
                Checks.same("begin", h.begin(39, g, 0), l);
            }
            Checks.same("the 11th", h.begin(0, g, 0), -1);
            for (int k = 0; k < 6; k++) {
                Checks.same("patch", Checks.patch(h, "drop a;"), k);
            }
            Checks.same("the 7th", Checks.patch(h, "drop a;"), -1);
            Checks.same("pond", Checks.pond(h, "kind a { act g { rest; rest; rest; } }"), 1);
            Checks.same("the last one", h.kindOf(39), -1);
            Checks.same("the last long act", h.under(9, 0), -1);
            Checks.same("the last patch", h.applied(5), -1);
        }
    }

    /** "no ACT is called in beats": of a new pond, and of the first one, also where its name has the number 0. */
    private static void pondCallsNoAct() {
        PondHouse h = Checks.house("kind g { field n = 0; act g { n = n + 1; } }");
        Checks.create(h, "g");
        h.beat();
        Checks.same("none is woken at first", h.outcome(0), 2);
        Checks.same("n", Checks.value(h, 0, "n"), 0);
        Checks.yes("wake", h.wake(0));
        h.beat();
        Checks.same("done", h.outcome(0), 0);
        Checks.same("n", Checks.value(h, 0, "n"), 1);
        Checks.same("pond", Checks.pond(h, "kind g { field n = 0; act g { n = n + 1; } }"), 1);
        Checks.create(h, "g");
        h.beat();
        Checks.same("none is woken", h.outcome(0), 2);
        Checks.same("n", Checks.value(h, 0, "n"), 0);
        PondHouse o = new PondHouse();
        Checks.applies(o, "kind g { field n = 0; act g { n = n + 1; } }");
        Checks.create(o, "g");
        o.beat();
        Checks.same("none is woken where no pond was told", o.outcome(0), 2);
        Checks.same("n", Checks.value(o, 0, "n"), 0);
    }

    /** What creatures of the former pond lost is nothing to those of the new one, by all numbers of names. */
    private static void pondForgetsWhatIsLost() {
        PondHouse h = new PondHouse();
        Checks.same("x", Checks.n(h, "x"), 0);
        Checks.pond(h, "kind a { field x = 5; field y = 6; act g { give x; } }");
        Checks.create(h, "a");
        Checks.applies(h, "change a { drop x; drop y; }");
        Checks.same("lost", h.value(0, 0), 5);
        Checks.pond(h, "kind a { act g { give x; } }");
        Checks.create(h, "a");
        Checks.same("x", h.value(0, 0), 0);
        Checks.same("y", Checks.value(h, 0, "y"), 0);
        Checks.same("g", Checks.act(h, 0, "g", 0), 1);
        Checks.same("with 1001", h.told(1), 1001);
    }

    /** "NONE: a FAULT, all else stays" */
    private static void pondWithAFaultChangesNothing() {
        PondHouse h = busyHouse();
        int x = Checks.n(h, "x");
        int ahead = h.value(1, x);
        for (String text : new String[] {"kind a { field q = 1; } kind b {", "", "kind a { } kind a { }", "kind q under p { }"}) {
            Checks.same("pond " + text, Checks.pond(h, text), -1);
            Checks.same("kinds", h.kinds(), 2);
            Checks.same("generation of b", h.kind(1, 2), 1);
            Checks.same("creature 1", h.kindOf(1), Checks.n(h, "b"));
            Checks.same("x", h.value(1, x), ahead);
            Checks.same("what is lost", Checks.value(h, 1, "y"), 3);
            Checks.same("patch 0", h.applied(0), 2);
            Checks.same("patch 1 waits", h.applied(1), 1);
            Checks.same("the long act", h.under(0, 0), 1);
            Checks.same("it forbids", h.under(0, 4), 1);
        }
        Checks.same("beat", h.beat(), 3);
        Checks.same("the woken act is called", h.outcome(0), 0);
        Checks.same("the long act goes on, too", h.under(0, 1), 2);
        // the woken act is run whole, the long one to its second rest
        Checks.same("x", h.value(1, x), ahead + 111 + 10);
        Checks.yes("forbid", h.forbid(0, false));
        h.beat();
        Checks.same("the patch is made", h.applied(1), 2);
        Checks.yes("w", Checks.has(h, 0, "w"));
    }

    /** "its number, 0 .. 5. NONE: a FAULT": one with a fault takes no number. */
    private static void patchNumbersAndFaults() {
        PondHouse h = Checks.house("kind a { }");
        for (int k = 0; k < 6; k++) {
            Checks.same("a fault", Checks.patch(h, "drop ;"), -1);
            Checks.same("nothing is kept", h.applied(k), -1);
            Checks.same("patch", Checks.patch(h, "drop a;"), k);
            Checks.same("kept", h.applied(k), 0);
        }
        Checks.same("a seventh", Checks.patch(h, "drop a;"), -1);
        Checks.same("not kept", h.applied(6), -1);
    }

    /** "Of the latest pond() or patch()": word() changes nothing of it; "NONE for another what". */
    private static void faultIsOfTheLatest() {
        PondHouse h = Checks.house("kind a { }");
        Checks.same("no fault", h.fault(0), 0);
        Checks.same("no place", h.fault(1), -1);
        Checks.patch(h, "drop ;");
        Checks.same("fault", h.fault(0), 1);
        Checks.same("place", h.fault(1), 5);
        Checks.tape(h, "1");
        Checks.same("no word", h.word(), -1);
        Checks.same("fault still", h.fault(0), 1);
        Checks.same("place still", h.fault(1), 5);
        Checks.pond(h, "kind a { } kind a { }");
        Checks.same("fault of the pond", h.fault(0), 4);
        Checks.same("its place", h.fault(1), 16);
        Checks.patch(h, "drop a;");
        Checks.same("no fault", h.fault(0), 0);
        Checks.same("no place", h.fault(1), -1);
        Checks.same("fault(2)", h.fault(2), -1);
        Checks.same("fault(-1)", h.fault(-1), -1);
        for (int n : FAR) {
            Checks.same("fault(" + n + ")", h.fault(n), -1);
        }
    }

    private static String kinds(int count, boolean chain) {
        StringBuilder text = new StringBuilder();
        for (int i = 0; i < count; i++) {
            text.append("kind ").append(Checks.name(i));
            text.append(chain && i > 0 ? " under " + Checks.name(i - 1) : "").append(" { } ");
        }
        return text.toString();
    }

    /** "KINDS, at most 12, in the order in which they came" */
    private static void twelveKinds() {
        PondHouse h = Checks.house(kinds(12, false));
        Checks.same("kinds", h.kinds(), 12);
        for (int i = 0; i < 12; i++) {
            Checks.same("name", h.kind(i, 0), i);
            Checks.same("above", h.kind(i, 1), -1);
        }
        Checks.same("kind 12", h.kind(12, 0), -1);
        Checks.same("a creature of the last", h.create(11), 0);
        Checks.same("its kind", h.kindOf(0), 11);
    }

    private static void twelveKindsInOneChain() {
        PondHouse h = Checks.house("kind naa { field x = 1; static s = 5; act g { x = x + v; give s; } } " + kinds(12, true).substring("kind naa { } ".length()));
        Checks.same("kinds", h.kinds(), 12);
        int last = Checks.create(h, "nal");
        Checks.same("x", Checks.value(h, last, "x"), 1);
        Checks.same("g", Checks.act(h, last, "g", 6), 0);
        Checks.same("gave", h.told(0), 5);
        Checks.same("x", Checks.value(h, last, "x"), 7);
        Checks.same("fixed", h.fixed(Checks.n(h, "nal"), Checks.n(h, "s")), 5);
        Checks.applies(h, "change naa { rename x y; }");
        Checks.same("y", Checks.value(h, last, "y"), 7);
        Checks.same("generation", h.kind(11, 2), 1);
        Checks.refuses(h, "move naa under nal;", 5, 0, -1);
        Checks.refuses(h, "change nal { field y = 1; }", 8, -1, -1);
    }

    private static void thirteenKinds() {
        Checks.pondFine(12, kinds(12, false));
        Checks.pondFine(12, kinds(12, true));
        Checks.pondFault(5, kinds(12, false) + "kind ^zz { }");
        Checks.pondFault(5, kinds(12, true) + "kind ^zz under nal { }");
        PondHouse h = Checks.house("kind a { }");
        Checks.same("thirteen", Checks.pond(h, kinds(13, false)), -1);
        Checks.same("the former stays", h.kinds(), 1);
    }

    private static String members(String ahead, String behind, int from, int to) {
        StringBuilder text = new StringBuilder();
        for (int i = from; i < to; i++) {
            text.append(ahead).append(Checks.name(i)).append(behind);
        }
        return text.toString();
    }

    /** "Each has, of its own, at most 8 FIELDS (links are FIELDS), 4 STATICS, 8 ACTS; those of the KINDS above are its, too." */
    private static void membersOfItsOwn() {
        String first = members("field ", "=1;", 0, 8) + members("static ", "=2;", 16, 20) + members("act ", "{}", 24, 32);
        String second = members("link ", ";", 8, 16) + members("static ", "=3;", 20, 24) + members("act ", "{}", 29, 37);
        PondHouse h = Checks.house("kind a{" + first + "}kind b under a{" + second + "}");
        for (int i = 0; i < 2; i++) {
            Checks.same("fields", h.kind(i, 3), 8);
            Checks.same("statics", h.kind(i, 4), 4);
            Checks.same("acts", h.kind(i, 5), 8);
        }
        int c = Checks.create(h, "b");
        for (int i = 0; i < 16; i++) {
            Checks.same("value", Checks.value(h, c, Checks.name(i)), i < 8 ? 1 : -1);
        }
        for (int i = 16; i < 24; i++) {
            Checks.same("static", h.fixed(h.kindOf(c), Checks.n(h, Checks.name(i))), i < 20 ? 2 : 3);
        }
        for (int i = 24; i < 37; i++) {
            Checks.same("act", Checks.act(h, c, Checks.name(i), 0), 0);
        }
    }

    /** The rows of the three sorts are full each by itself, in whatever order they fill. */
    private static void membersInAnyOrder() {
        String[] parts = {members("static ", "=2;", 16, 20), members("act ", "{}", 24, 32), members("field ", "=1;", 0, 4), members("link ", ";", 4, 8)};
        for (int turn = 0; turn < 4; turn++) {
            StringBuilder text = new StringBuilder("kind a{");
            for (int i = 0; i < 4; i++) {
                text.append(parts[(turn + i) % 4]);
            }
            Checks.pondFine(1, text + "}");
            Checks.pondFault(5, text + "field ^b=1;}");
            Checks.pondFault(5, text + "static ^b=1;}");
            Checks.pondFault(5, text + "act ^b{}}");
            Checks.applies(Checks.house("kind b { }"), text + "}");
        }
    }

    /** "5 (at the NAME, too) too many of them" */
    private static void tooManyMembers() {
        Checks.pondFine(1, "kind a{" + members("field ", "=1;", 0, 7) + "link b;}");
        Checks.pondFault(5, "kind a{" + members("field ", "=1;", 0, 7) + "link b;link ^c;}");
        Checks.pondFault(5, "kind a{" + members("link ", ";", 0, 8) + "field ^b = 1;}");
        Checks.pondFine(1, "kind a{" + members("field ", "=1;", 0, 8) + "static b = 1; act b { } }");
        Checks.pondFault(5, "kind a{" + members("static ", "=1;", 0, 4) + "static ^b = 1;}");
        Checks.pondFine(1, "kind a{" + members("static ", "=1;", 0, 4) + "field b = 1; act b { } }");
        Checks.pondFault(5, "kind a{" + members("act ", "{}", 0, 8) + "act ^b { } }");
        Checks.pondFine(1, "kind a{" + members("act ", "{}", 0, 8) + "field b = 1; static c = 1; }");
    }

    /** "4 (at the NAME) a KIND .. that is there already" */
    private static void twiceTheSameKind() {
        Checks.pondFault(4, "kind a { } kind ^a { }");
        Checks.pondFault(4, "kind a { } kind b { } kind ^a under b { }");
        Checks.pondFault(4, "kind a { } kind ^a");
        Checks.pondFine(2, "kind a { field a = 1; act a { } } kind b { static a = 1; }");
    }

    /** "an own member of one (of each of the two sorts: FIELDS and STATICS; ACTS), that is there already" */
    private static void twiceTheSameMember() {
        for (String first : "field static".split(" ")) {
            for (String second : "field static".split(" ")) {
                Checks.pondFault(4, "kind a { " + first + " x = 1; " + second + " ^x = 1; }");
            }
            Checks.pondFault(4, "kind a { " + first + " x = 1; link ^x; }");
            Checks.pondFault(4, "kind a { link x; " + first + " ^x = 1; }");
            Checks.pondFine(1, "kind a { " + first + " x = 1; act x { } }");
            Checks.pondFine(1, "kind a { act x { } " + first + " x = 1; }");
        }
        Checks.pondFault(4, "kind a { link x; link ^x; }");
        Checks.pondFault(4, "kind a { act x { } act ^x { } }");
        Checks.pondFine(2, "kind a { field x = 1; act g { } } kind b { field x = 1; act g { } }");
    }

    /** "under what is not there (KINDS stand behind those above them)" */
    private static void underWhatIsNotThere() {
        Checks.pondFault(4, "kind a under ^b { }");
        Checks.pondFault(4, "kind a under ^a { }");
        Checks.pondFault(4, "kind a under ^b { } kind b { }");
        Checks.pondFault(4, "kind a { field b = 1; } kind c under ^b { }");
        Checks.pondFine(2, "kind b { } kind a under b { }");
        PondHouse h = Checks.house("kind b { }");
        Checks.same("one of the former pond", Checks.pond(h, "kind a under b { }"), -1);
        Checks.same("fault", h.fault(0), 4);
        Checks.same("place", h.fault(1), 13);
    }

    /** "4 (at the NAME) a FIELD or STATIC that a KIND above has" */
    private static void whatAKindAboveHas() {
        for (String first : new String[] {"field x = 1;", "link x;", "static x = 1;"}) {
            for (String second : new String[] {"field ^x = 1;", "link ^x;", "static ^x = 1;"}) {
                Checks.pondFault(4, "kind a { " + first + " } kind b under a { " + second + " }");
                Checks.pondFault(4, "kind a { " + first + " } kind b under a { } kind c under b { " + second + " }");
                Checks.pondFine(3, ("kind a { " + first + " } kind b { } kind c under b { " + second + " }").replace("^", ""));
            }
        }
        Checks.pondFine(3, "kind a { } kind b under a { field x = 1; } kind c under a { field x = 1; }");
    }

    /** "(an ACT may be in several; the nearest counts)" */
    private static void anActMayBeInSeveral() {
        PondHouse h = Checks.house("kind a { act g { give 1; } act x { give 4; } } kind b under a { act g { give 2; } field x = 1; } kind c under b { } kind d under c { act g { give 3; } }");
        int[] due = {1, 2, 2, 3};
        for (int i = 0; i < 4; i++) {
            int c = Checks.create(h, "abcd".substring(i, i + 1));
            Checks.same("g", Checks.act(h, c, "g", 0), 0);
            Checks.same("gave", h.told(0), due[i]);
            Checks.same("x", Checks.act(h, c, "x", 0), 0);
            Checks.same("gave", h.told(0), 4);
        }
    }

    /** "what 0 .. 5 .. NONE if there is none such" */
    private static void kindTellsSixThings() {
        PondHouse h = Checks.house("kind a { field x = 1; link y; static s = 1; act g { } } kind b under a { act g { } act h { } field z = 1; }");
        int[][] due = {{0, -1, 0, 2, 1, 1}, {5, 0, 0, 1, 0, 2}};
        for (int i = 0; i < 2; i++) {
            for (int what = 0; what < 6; what++) {
                Checks.same("kind(" + i + ", " + what + ")", h.kind(i, what), due[i][what]);
            }
            Checks.same("kind(i, 6)", h.kind(i, 6), -1);
            Checks.same("kind(i, -1)", h.kind(i, -1), -1);
            for (int n : FAR) {
                Checks.same("kind(i, far)", h.kind(i, n), -1);
            }
        }
        for (int what = 0; what < 6; what++) {
            Checks.same("kind(2, ..)", h.kind(2, what), -1);
            Checks.same("kind(-1, ..)", h.kind(-1, what), -1);
            Checks.same("kind(11, ..)", h.kind(11, what), -1);
            Checks.same("kind(12, ..)", h.kind(12, what), -1);
        }
        for (int n : FAR) {
            Checks.same("kind(far, 0)", h.kind(n, 0), -1);
        }
    }

    /** "its number, the least that was never one. NONE: no such KIND, or 40 were made." */
    private static void fortyCreatures() {
        PondHouse h = Checks.house("kind a { field x = 1; act g { give x; } }");
        int a = Checks.n(h, "a");
        int x = Checks.n(h, "x");
        for (int c = 0; c < 40; c++) {
            Checks.same("not yet", h.kindOf(c), -1);
            Checks.same("create", h.create(a), c);
            Checks.same("there", h.kindOf(c), a);
        }
        Checks.same("the 41st", h.create(a), -1);
        Checks.same("and again", h.create(a), -1);
        Checks.yes("put", h.put(39, x, 7));
        Checks.no("put of 40", h.put(40, x, 7));
        Checks.same("value of 39", h.value(39, x), 7);
        Checks.same("value of 0", h.value(0, x), 1);
        Checks.same("g", Checks.act(h, 39, "g", 0), 0);
        Checks.same("gave", h.told(0), 7);
        Checks.same("sum", h.sum(x), 46);
        h.wake(Checks.n(h, "g"));
        h.beat();
        Checks.same("outcome of 39", h.outcome(39), 0);
        Checks.same("outcome of 40", h.outcome(40), -1);
    }

    private static void endedOnesKeepTheirNumbers() {
        PondHouse h = Checks.house("kind a { } kind b { }");
        int a = Checks.n(h, "a");
        int b = Checks.n(h, "b");
        Checks.same("create", h.create(b), 0);
        Checks.same("create", h.create(a), 1);
        Checks.applies(h, "drop b;");
        Checks.same("ended", h.kindOf(0), -1);
        for (int c = 2; c < 40; c++) {
            Checks.same("create", h.create(a), c);
        }
        Checks.same("40 were made, 39 live", h.create(a), -1);
        Checks.applies(h, "drop a;");
        Checks.applies(h, "kind a { }");
        Checks.same("40 were made, none lives", h.create(a), -1);
    }

    private static void noKindOfThatName() {
        PondHouse h = Checks.house("kind a { field x = 1; act g { } } kind b { }");
        Checks.same("a field's name", h.create(Checks.n(h, "x")), -1);
        Checks.same("an act's name", h.create(Checks.n(h, "g")), -1);
        Checks.same("a name of nothing", h.create(Checks.n(h, "q")), -1);
        Checks.same("no name", h.create(5), -1);
        Checks.same("NONE", h.create(-1), -1);
        Checks.same("40", h.create(40), -1);
        for (int n : FAR) {
            Checks.same("far", h.create(n), -1);
        }
        Checks.applies(h, "drop b;");
        Checks.same("a kind that was dropped", h.create(Checks.n(h, "b")), -1);
        Checks.same("none of them was made", Checks.create(h, "a"), 0);
    }

    /** "a value for each FIELD, at first what was told (NONE, -1, of a link)" */
    private static void firstValues() {
        PondHouse h = Checks.house("kind a { field x = 999999; field y = -999999; field z = 0; link l; } kind b under a { link m; field n = 1; }");
        for (int turn = 0; turn < 2; turn++) {
            int c = Checks.create(h, "b");
            Checks.same("x", Checks.value(h, c, "x"), 999999);
            Checks.same("y", Checks.value(h, c, "y"), -999999);
            Checks.same("z", Checks.value(h, c, "z"), 0);
            Checks.same("l", Checks.value(h, c, "l"), -1);
            Checks.same("m", Checks.value(h, c, "m"), -1);
            Checks.same("n", Checks.value(h, c, "n"), 1);
            for (String name : "x y z l m n".split(" ")) {
                Checks.yes("put", h.put(c, Checks.n(h, name), 77));
            }
        }
    }

    /** "NONE if it does not live", "whether it lives", "if it lives": not made, ended, no number of one. */
    private static void onlyTheLivingAnswer() {
        PondHouse h = Checks.house("kind a { field x = 5; } kind b under a { }");
        int x = Checks.n(h, "x");
        Checks.create(h, "a");
        Checks.create(h, "b");
        Checks.applies(h, "change a { drop x; field y = 6; }");
        Checks.same("lost as it lives", h.value(1, x), 5);
        Checks.applies(h, "drop b;");
        int y = Checks.n(h, "y");
        for (int c : new int[] {1, 2, 3, 39, 40, 41, -1, -2, MIN, MAX}) {
            Checks.same("kindOf", h.kindOf(c), -1);
            Checks.same("generation", h.generation(c), -1);
            Checks.no("has", h.has(c, y));
            Checks.same("value", h.value(c, y), 0);
            Checks.same("value of what is lost", h.value(c, x), 0);
            Checks.no("put", h.put(c, y, 1));
        }
        Checks.same("kindOf", h.kindOf(0), Checks.n(h, "a"));
        Checks.same("generation", h.generation(0), 1);
        Checks.yes("has", h.has(0, y));
        Checks.same("value", h.value(0, y), 6);
        Checks.same("value of what is lost", h.value(0, x), 5);
        Checks.yes("put", h.put(0, y, 1));
    }

    private static void namesThatAreNoFields() {
        PondHouse h = Checks.house("kind a { field x = 5; static s = 6; act g { } } kind b under a { field y = 7; }");
        int c = Checks.create(h, "a");
        int[] names = {Checks.n(h, "s"), Checks.n(h, "g"), Checks.n(h, "a"), Checks.n(h, "y"), Checks.n(h, "q"), 39, 40, 41, -1, -2, MIN, MAX};
        for (int name : names) {
            Checks.no("has " + name, h.has(c, name));
            Checks.same("value " + name, h.value(c, name), 0);
            Checks.no("put " + name, h.put(c, name, 9));
            Checks.same("value behind put " + name, h.value(c, name), 0);
            Checks.same("sum " + name, h.sum(name), 0);
        }
        Checks.same("s stays", h.fixed(Checks.n(h, "a"), Checks.n(h, "s")), 6);
        Checks.same("x stays", Checks.value(h, c, "x"), 5);
    }

    /** "The FIELD is v: true; false if there is none such." */
    private static void putOfAnyNumber() {
        PondHouse h = Checks.house("kind a { field x = 5; link l; act g { give x; } } kind b under a { }");
        int c = Checks.create(h, "b");
        int other = Checks.create(h, "b");
        for (int v : new int[] {MIN, MIN + 1, -1, 0, 1, MAX}) {
            for (String name : "x l".split(" ")) {
                Checks.yes("put", h.put(c, Checks.n(h, name), v));
                Checks.same("value", Checks.value(h, c, name), v);
            }
            Checks.same("g", Checks.act(h, c, "g", 0), 0);
            Checks.same("gave", h.told(0), v);
        }
        Checks.same("the other one's", Checks.value(h, other, "x"), 5);
        Checks.same("the other one's", Checks.value(h, other, "l"), -1);
    }

    /** "what is LOST under that NAME, if it lives and has no such FIELD; else 0" */
    private static void valueOfWhatIsLost() {
        PondHouse h = Checks.house("kind a { field x = 5; field y = 0; }");
        int x = Checks.n(h, "x");
        Checks.create(h, "a");
        Checks.yes("put", h.put(0, x, MIN));
        Checks.applies(h, "change a { drop x; }");
        Checks.same("lost", h.value(0, x), MIN);
        Checks.no("no field", h.has(0, x));
        Checks.no("put", h.put(0, x, 1));
        Checks.same("lost still", h.value(0, x), MIN);
        Checks.same("sum", h.sum(x), 0);
        Checks.create(h, "a");
        Checks.same("of one made since", h.value(1, x), 0);
        Checks.applies(h, "change a { field x = 8; }");
        Checks.same("the field", h.value(0, x), 8);
        Checks.same("the field", h.value(1, x), 8);
    }

    /** "The STATIC of a KIND (its own, or of the nearest above), by NAMES" */
    private static void fixedOfTheNearest() {
        PondHouse h = Checks.house("kind a { static s = 1; } kind b under a { static t = 2; } kind c under b { static u = 3; } kind d { static s = 4; }");
        int[][] due = {{1, 0, 0}, {1, 2, 0}, {1, 2, 3}, {4, 0, 0}};
        for (int i = 0; i < 4; i++) {
            for (int j = 0; j < 3; j++) {
                int got = h.fixed(Checks.n(h, "abcd".substring(i, i + 1)), Checks.n(h, "stu".substring(j, j + 1)));
                Checks.same("fixed of " + i + " " + j, got, due[i][j]);
            }
        }
    }

    /** "0 if there is none such" */
    private static void fixedOfNothing() {
        PondHouse h = Checks.house("kind a { field x = 7; static s = 1; act g { } } kind b { }");
        int a = Checks.n(h, "a");
        int s = Checks.n(h, "s");
        Checks.same("s", h.fixed(a, s), 1);
        Checks.same("a field", h.fixed(a, Checks.n(h, "x")), 0);
        Checks.same("an act", h.fixed(a, Checks.n(h, "g")), 0);
        Checks.same("another kind", h.fixed(Checks.n(h, "b"), s), 0);
        Checks.same("no kind", h.fixed(s, s), 0);
        for (int n : new int[] {-2, -1, 39, 40, 41, MIN, MAX}) {
            Checks.same("fixed(a, " + n + ")", h.fixed(a, n), 0);
            Checks.same("fixed(" + n + ", s)", h.fixed(n, s), 0);
        }
        Checks.applies(h, "drop a;");
        Checks.same("a kind that was dropped", h.fixed(a, s), 0);
    }

    /** "The sum of a FIELD over all living CREATURES that have it." */
    private static void sumsBeyondInts() {
        PondHouse h = Checks.house("kind a { field x = 0; link l; }");
        int x = Checks.n(h, "x");
        for (int c = 0; c < 40; c++) {
            Checks.create(h, "a");
            h.put(c, x, MAX);
        }
        Checks.same("the most", h.sum(x), 40L * MAX);
        for (int c = 0; c < 40; c++) {
            h.put(c, x, MIN);
        }
        Checks.same("the least", h.sum(x), 40L * MIN);
        Checks.same("links", h.sum(Checks.n(h, "l")), -40);
    }

    private static void sumsOfTheLivingAlone() {
        PondHouse h = Checks.house("kind a { field x = 1; } kind b under a { } kind c { field x = 10; } kind d { static x = 100; }");
        int x = Checks.n(h, "x");
        Checks.same("none", h.sum(x), 0);
        for (String kind : "a b c d".split(" ")) {
            Checks.create(h, kind);
        }
        Checks.same("three have it", h.sum(x), 12);
        Checks.applies(h, "change c { drop x; }");
        Checks.same("what is lost is none", h.sum(x), 2);
        Checks.applies(h, "drop b;");
        Checks.same("what ended is none", h.sum(x), 1);
        for (int n : new int[] {-2, -1, 40, 41, MIN, MAX}) {
            Checks.same("sum(" + n + ")", h.sum(n), 0);
        }
    }

    /** "NAMES have numbers 0, 1, ..": the last one, 39, is as good as any, as what it names and as what is lost. */
    private static void theFortiethNameIsAField() {
        PondHouse h = Checks.houseOfNames(40);
        Checks.same("pond", Checks.pond(h, "kind naa { field nbt = 5; act nab { nbt = nbt + 1; give nbt; } }"), 1);
        h.create(0);
        Checks.same("first value", h.value(0, 39), 5);
        Checks.yes("has", h.has(0, 39));
        Checks.yes("put", h.put(0, 39, 7));
        Checks.same("act", h.act(0, 1, 0), 0);
        Checks.same("gave", h.told(0), 8);
        Checks.same("sum", h.sum(39), 8);
        Checks.applies(h, "change naa { field nac = 1; carry nac nbt; }");
        Checks.same("carried", h.value(0, 39), 8);
        Checks.applies(h, "change naa { drop nbt; }");
        Checks.no("lost", h.has(0, 39));
        Checks.same("what is lost", h.value(0, 39), 8);
        Checks.same("act", h.act(0, 1, 0), 0);
        Checks.same("lost and one more", h.value(0, 39), 9);
        Checks.yes("back", h.back());
        Checks.same("there again", h.value(0, 39), 9);
        Checks.applies(h, "change naa { drop nac; rename nbt nac; }");
        Checks.same("renamed", h.value(0, 2), 9);
        Checks.yes("back", h.back());
        Checks.same("with its name", h.value(0, 39), 9);
        Checks.applies(h, "change naa { drop nbt; }");
        Checks.same("pond", Checks.pond(h, "kind naa { act nab { give nbt; } }"), 1);
        h.create(0);
        Checks.same("nothing is lost", h.value(0, 39), 0);
        Checks.same("act", h.act(0, 1, 0), 1);
        Checks.same("no such name", h.told(1), 1001);
    }

    private static void theFortiethNameIsAStatic() {
        PondHouse h = Checks.houseOfNames(40);
        Checks.same("pond", Checks.pond(h, "kind naa { static nbt = 5; } kind nab under naa { act nac { nbt = nbt + 1; give nbt; } }"), 2);
        h.create(1);
        Checks.same("fixed", h.fixed(0, 39), 5);
        Checks.same("act", h.act(0, 2, 0), 0);
        Checks.same("gave", h.told(0), 6);
        Checks.same("fixed", h.fixed(1, 39), 6);
        Checks.applies(h, "change naa { static nad = 1; }");
        Checks.same("kept", h.fixed(0, 39), 6);
    }

    private static void theFortiethNameIsAnAct() {
        PondHouse h = Checks.houseOfNames(40);
        Checks.same("pond", Checks.pond(h, "kind naa { act nbt { give 4; } } kind nbs under naa { act nab { do nbt; give last; } act nbt { above; rest; give last + 1; } }"), 2);
        Checks.same("kind 38", h.create(38), 0);
        Checks.same("act", h.act(0, 39, 0), 0);
        Checks.same("gave", h.told(0), 5);
        Checks.same("act that does it", h.act(0, 1, 0), 0);
        Checks.same("gave", h.told(0), 5);
        Checks.same("begin", h.begin(0, 39, 0), 0);
        Checks.yes("wake", h.wake(39));
        h.beat();
        Checks.same("outcome", h.outcome(0), 0);
        for (int i = 0; i < 3; i++) {
            Checks.same("ran, the act", h.ran(i, 1), 39);
            Checks.same("ran, the kind", h.ran(i, 2), i == 0 ? 38 : 0);
        }
        h.beat();
        Checks.same("gave at its end", h.under(0, 5), 5);
    }
}
