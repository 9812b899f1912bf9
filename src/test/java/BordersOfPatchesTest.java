/** Term III and promises 26 to 29: patches that wait, are made, refused, taken back; each border, each refusal. */
public final class BordersOfPatchesTest {
    private static final int MIN = Integer.MIN_VALUE;
    private static final int MAX = Integer.MAX_VALUE;

    private static final String POND = "kind a { field x = 1; field y = 2; static s = 3; act f { } }"
            + " kind b under a { field z = 4; link l; static t = 5; act f { } act g { } } kind c under b { field u = 5; } kind d { field x = 6; field z = 7; }";

    public static void main(String[] args) {
        applyOfPatches();
        applyOfNoneSuch();
        applyWhileOneWaits();
        appliedTellsSixStates();
        madeAtTheEndOfABeat();
        madeOnceACall();
        sevenBeatsOfWaiting();
        theEighthBeat();
        madeInTheEighthBeat();
        waitsAnew();
        onlyThoseUnderWayForbid();
        refusedForMissingKinds();
        refusedForAKindThere();
        refusedForAMemberThere();
        anActTakesThePlace();
        refusedForNoMember();
        refusedUnderItself();
        refusedWithAKindBelow();
        refusedForThirteenKinds();
        refusedForTooManyMembers();
        refusedForMembersAbove();
        refusedForMembersAboveTheFirstKind();
        newKindsInTheirOrder();
        changesFromTheLeft();
        changesNumberedFromZero();
        aRuleThatFails();
        aRuleOfTheFirst();
        aCheckThatIsZero();
        checksInOrder();
        checksOfNobody();
        checksOfWhatIsNew();
        checksUpToTheLastCreature();
        refusedAllIsAsItWas();
        refusedAllElseIsAsItWas();
        refusalOfTheLatest();
        refusalAheadOfAny();
        generationsOneByOne();
        generationsOfThoseUnder();
        generationsWithoutAChange();
        generationsOfRefusedOnes();
        newKindsBehind();
        theLatestRule();
        rulesWithTheCreatureAsItWas();
        comesUnderTheSameName();
        comesStepByStep();
        comesFromNone();
        comesOfAnotherKind();
        comesNotOfWhatIsGone();
        lostAndTheLatestLost();
        notLostWhereARuleIs();
        carriedOnlyWhereChanged();
        endedCreatures();
        droppedAndNewInOne();
        staticsKeepTheirValues();
        backOfNothing();
        backOfTheLatestAlone();
        backWhileOneWaits();
        backBehindOthers();
        backToKinds();
        backOfCreatures();
        backOfMadeAndDropped();
        backOfStatics();
        backOfFortyCreatures();
        backOfEightFields();
        newStaticsBesideDroppedOnes();
        backLosesNothing();
        Checks.endWithCode();
    }

    private static void put(PondHouse h, int c, String name, int v) {
        Checks.yes("put " + name, h.put(c, Checks.n(h, name), v));
    }

    private static int fixed(PondHouse h, String kind, String name) {
        return h.fixed(Checks.n(h, kind), Checks.n(h, name));
    }

    /** "PATCH k is called for: true", "PATCHES 0 .. 5" */
    private static void applyOfPatches() {
        PondHouse h = Checks.house("kind a { }");
        for (int k = 0; k < 6; k++) {
            Checks.same("patch", Checks.patch(h, "change a { field " + "pqrsto".charAt(k) + " = 1; }"), k);
        }
        for (int k : new int[] {5, 0, 4, 1, 3, 2}) {
            Checks.yes("apply", h.apply(k));
            h.beat();
            Checks.same("applied", h.applied(k), 2);
            Checks.same("fields", h.kind(0, 3), h.kind(0, 2));
        }
        Checks.same("all six", h.kind(0, 3), 6);
    }

    /** "false if there is none such", "NONE if there is none such" */
    private static void applyOfNoneSuch() {
        PondHouse h = Checks.house("kind a { }");
        Checks.no("none yet", h.apply(0));
        for (int count = 1; count <= 6; count++) {
            Checks.same("patch", Checks.patch(h, "change a { }"), count - 1);
            for (int k : new int[] {MIN, -2, -1, count, count + 1, 6, 7, 40, MAX}) {
                Checks.no("apply(" + k + ")", h.apply(k));
                Checks.same("applied(" + k + ")", h.applied(k), k < 0 || k >= count ? -1 : 0);
            }
            Checks.same("not called for", h.applied(count - 1), 0);
        }
        h.beat();
        Checks.same("none was made", h.kind(0, 2), 0);
    }

    /** "or one WAITS" */
    private static void applyWhileOneWaits() {
        PondHouse h = Checks.house("kind a { }");
        Checks.patch(h, "change a { }");
        Checks.patch(h, "change a { }");
        Checks.yes("apply", h.apply(0));
        Checks.no("another", h.apply(1));
        Checks.no("the same", h.apply(0));
        Checks.no("none such", h.apply(2));
        Checks.same("not called for", h.applied(1), 0);
        h.beat();
        Checks.yes("it waits no more", h.apply(1));
        h.beat();
        Checks.yes("one that was applied", h.apply(0));
        h.beat();
        Checks.same("three times", h.kind(0, 2), 3);
    }

    /** "0 not called for, 1 WAITS, 2 APPLIED, 3 given up, 4 REFUSED, 5 taken back (by the latest time)" */
    private static void appliedTellsSixStates() {
        PondHouse h = Checks.house("kind a { act g { " + Checks.times(20, "rest; ") + "} }");
        Checks.create(h, "a");
        Checks.patch(h, "kind b { }");
        Checks.same("not called for", h.applied(0), 0);
        h.apply(0);
        Checks.same("waits", h.applied(0), 1);
        h.beat();
        Checks.same("applied", h.applied(0), 2);
        h.apply(0);
        Checks.same("waits", h.applied(0), 1);
        h.beat();
        Checks.same("refused", h.applied(0), 4);
        Checks.yes("back", h.back());
        Checks.same("taken back", h.applied(0), 5);
        h.begin(0, Checks.n(h, "g"), 0);
        h.forbid(0, true);
        h.apply(0);
        for (int i = 0; i < 8; i++) {
            Checks.same("waits", h.applied(0), 1);
            h.beat();
        }
        Checks.same("given up", h.applied(0), 3);
        h.forbid(0, false);
        Checks.same("applied", Checks.make(h, 0), 2);
    }

    /** "One that is called for WAITS. At the end of a beat .. it is made" */
    private static void madeAtTheEndOfABeat() {
        PondHouse h = Checks.house("kind a { field x = 1; act g { x = x + 1; } }");
        Checks.create(h, "a");
        Checks.patch(h, "change a { act g { x = x + 100; } carry x x * 10; }");
        h.wake(Checks.n(h, "g"));
        h.apply(0);
        Checks.act(h, 0, "g", 0);
        Checks.same("not yet", Checks.value(h, 0, "x"), 2);
        h.beat();
        Checks.same("behind the creatures", Checks.value(h, 0, "x"), 30);
        h.beat();
        Checks.same("the new body", Checks.value(h, 0, "x"), 130);
    }

    private static void madeOnceACall() {
        PondHouse h = Checks.house("kind a { field x = 1; }");
        Checks.create(h, "a");
        Checks.patch(h, "change a { carry x x + 1; }");
        h.apply(0);
        h.beat();
        h.beat();
        h.beat();
        Checks.same("once", Checks.value(h, 0, "x"), 2);
        Checks.same("generation", h.kind(0, 2), 1);
    }

    /** A house with a patch kept, and a long act of many rests that forbids. */
    private static PondHouse forbidden() {
        PondHouse h = Checks.house("kind a { act g { " + Checks.times(40, "rest; ") + "} act f { rest; } }");
        Checks.create(h, "a");
        Checks.patch(h, "change a { }");
        h.begin(0, Checks.n(h, "g"), 0);
        h.forbid(0, true);
        return h;
    }

    /** "else it has waited one beat more" */
    private static void sevenBeatsOfWaiting() {
        PondHouse h = forbidden();
        h.apply(0);
        for (int i = 0; i < 7; i++) {
            h.beat();
            Checks.same("waits", h.applied(0), 1);
            Checks.same("not made", h.kind(0, 2), 0);
        }
        h.forbid(0, false);
        Checks.same("nothing without a beat", h.applied(0), 1);
        h.beat();
        Checks.same("made", h.applied(0), 2);
        Checks.same("made", h.kind(0, 2), 1);
    }

    /** "with the eighth it is given up" */
    private static void theEighthBeat() {
        PondHouse h = forbidden();
        h.beat();
        h.beat();
        h.apply(0);
        for (int i = 0; i < 8; i++) {
            Checks.same("waits", h.applied(0), 1);
            h.beat();
        }
        Checks.same("given up", h.applied(0), 3);
        h.forbid(0, false);
        h.beat();
        Checks.same("it stays so", h.applied(0), 3);
        Checks.same("not made", h.kind(0, 2), 0);
        Checks.same("not refused", h.refusal(0), 0);
        Checks.yes("apply", h.apply(0));
    }

    /** A long act whose last beat is the patch's eighth. */
    private static void madeInTheEighthBeat() {
        PondHouse h = Checks.house("kind a { act g { " + Checks.times(7, "rest; ") + "} act f { " + Checks.times(8, "rest; ") + "} }");
        Checks.create(h, "a");
        Checks.patch(h, "change a { }");
        h.begin(0, Checks.n(h, "g"), 0);
        h.forbid(0, true);
        h.apply(0);
        for (int i = 0; i < 7; i++) {
            h.beat();
            Checks.same("waits", h.applied(0), 1);
        }
        h.beat();
        Checks.same("made", h.applied(0), 2);
        h.begin(0, Checks.n(h, "f"), 0);
        h.forbid(0, true);
        h.apply(0);
        for (int i = 0; i < 8; i++) {
            h.beat();
        }
        Checks.same("one rest more, given up", h.applied(0), 3);
    }

    /** Each call waits for its own eight beats. */
    private static void waitsAnew() {
        PondHouse h = forbidden();
        for (int turn = 0; turn < 2; turn++) {
            Checks.yes("apply", h.apply(0));
            for (int i = 0; i < 8; i++) {
                Checks.same("waits", h.applied(0), 1);
                h.beat();
            }
            Checks.same("given up", h.applied(0), 3);
        }
        h.apply(0);
        h.beat();
        h.forbid(0, false);
        h.beat();
        Checks.same("made", h.applied(0), 2);
        h.forbid(0, true);
        h.apply(0);
        for (int i = 0; i < 7; i++) {
            h.beat();
            Checks.same("waits", h.applied(0), 1);
        }
    }

    /** "if no LONG ACT that FORBIDS is under way" */
    private static void onlyThoseUnderWayForbid() {
        PondHouse h = Checks.house("kind a { act g { " + Checks.times(20, "rest; ") + "} act f { rest; } act e { fail 1; } }");
        Checks.create(h, "a");
        Checks.patch(h, "change a { }");
        h.begin(0, Checks.n(h, "g"), 0);
        h.begin(0, Checks.n(h, "f"), 0);
        h.begin(0, Checks.n(h, "e"), 0);
        h.forbid(1, true);
        h.forbid(2, true);
        h.beat();
        h.beat();
        Checks.same("made, as those that forbid are over", Checks.make(h, 0), 2);
        for (int l = 1; l < 10; l++) {
            Checks.same("begin", h.begin(0, Checks.n(h, "g"), 0), l);
        }
        Checks.same("made, as none of ten forbids", Checks.make(h, 0), 2);
        h.forbid(9, true);
        Checks.same("the last one alone", Checks.make(h, 0), 1);
        h.forbid(9, false);
        h.beat();
        Checks.same("made", h.applied(0), 2);
        h.forbid(0, true);
        Checks.same("the first one alone", Checks.make(h, 0), 1);
    }

    private static void refused(int why, int change, String text) {
        PondHouse h = Checks.house(POND);
        Checks.create(h, "c");
        Checks.refuses(h, text, why, change, -1);
        Checks.same("kinds", h.kinds(), 4);
        for (int i = 0; i < 4; i++) {
            Checks.same("generation", h.kind(i, 2), 0);
        }
    }

    private static PondHouse applied(String text) {
        PondHouse h = Checks.house(POND);
        Checks.create(h, "c");
        Checks.applies(h, text);
        return h;
    }

    /** "1 a KIND that is named is not there" */
    private static void refusedForMissingKinds() {
        refused(1, 0, "change q { }");
        refused(1, 0, "change x { }");
        refused(1, 0, "drop q;");
        refused(1, 0, "move q;");
        refused(1, 0, "move q under a;");
        refused(1, 0, "move d under q;");
        refused(1, 0, "move d under f;");
        refused(1, 0, "check q 1;");
        refused(1, 0, "kind q under r { }");
        refused(1, 0, "kind q under q { }");
        refused(1, 1, "drop d; drop d;");
        refused(1, 1, "drop d; change d { }");
        refused(1, 1, "drop d; move a under d;");
        refused(1, 1, "drop d; kind q under d { }");
        refused(1, 1, "drop d; check d 1;");
        refused(1, 0, "change q { } kind q { }");
        applied("kind q { } change q { } kind r under q { } check r 1; move r; drop r;");
    }

    /** "2 a new KIND that is there" */
    private static void refusedForAKindThere() {
        refused(2, 0, "kind a { }");
        refused(2, 0, "kind d under a { }");
        refused(2, 1, "kind q { } kind q { }");
        applied("drop d; kind d { }");
    }

    /** "3 a FIELD or STATIC, where this KIND has one of its own; a rename to one, likewise" */
    private static void refusedForAMemberThere() {
        for (String sort : new String[] {"field NAME = 1;", "link NAME;", "static NAME = 1;"}) {
            refused(3, 0, "change a { " + sort.replace("NAME", "x") + " }");
            refused(3, 0, "change a { " + sort.replace("NAME", "s") + " }");
            refused(3, 0, "change b { " + sort.replace("NAME", "l") + " }");
            refused(3, 0, "kind q { field n = 1; " + sort.replace("NAME", "n") + " }");
            refused(3, 0, "change d { " + sort.replace("NAME", "n") + " " + sort.replace("NAME", "n") + " }");
            applied("change a { " + sort.replace("NAME", "f") + " }");
        }
        refused(3, 0, "change a { rename x y; }");
        refused(3, 0, "change a { rename x s; }");
        refused(3, 0, "change a { rename x x; }");
        refused(3, 0, "change a { rename x n; rename y n; }");
        refused(3, 0, "change a { rename x n; field n = 1; }");
        applied("change a { rename x f; }");
        applied("change a { rename x n; field x = 1; }");
        applied("change a { drop y; rename x y; }");
    }

    /** "(an ACT takes the place of the one that is there)" */
    private static void anActTakesThePlace() {
        PondHouse h = Checks.house("kind a { act f { give 1; } act g { give 2; } act h { give 3; } }");
        Checks.create(h, "a");
        Checks.applies(h, "change a { act g { give 4; } act g { give 5; } act k { give 6; } } kind q { act f { give 7; } act f { give 8; } }");
        Checks.same("acts", h.kind(0, 5), 4);
        Checks.same("acts of the new one", h.kind(1, 5), 1);
        int[] due = {1, 5, 3, 6};
        for (int i = 0; i < 4; i++) {
            Checks.same("done", Checks.act(h, 0, "fghk".substring(i, i + 1), 0), 0);
            Checks.same("gave", h.told(0), due[i]);
        }
        Checks.create(h, "q");
        Checks.same("done", Checks.act(h, 1, "f", 0), 0);
        Checks.same("the latter", h.told(0), 8);
    }

    /** "4 a member that is dropped .., a FIELD that is renamed, is not this KIND's own" */
    private static void refusedForNoMember() {
        refused(4, 0, "change a { drop q; }");
        refused(4, 0, "change a { drop z; }");
        refused(4, 0, "change b { drop x; }");
        refused(4, 0, "change b { drop s; }");
        refused(4, 0, "change c { drop g; }");
        refused(4, 0, "change a { drop x; drop x; }");
        refused(4, 0, "change a { drop f; drop f; }");
        refused(4, 0, "change a { drop a; }");
        refused(4, 0, "change a { rename q n; }");
        refused(4, 0, "change a { rename s n; }");
        refused(4, 0, "change a { rename f n; }");
        refused(4, 0, "change b { rename x n; }");
        refused(4, 0, "change a { rename x n; rename x m; }");
        refused(4, 0, "change a { rename x n; drop x; }");
        applied("change a { drop x; drop y; drop s; drop f; } change b { drop l; drop g; }");
    }

    /** "5 a KIND moved under itself or one that is under it" */
    private static void refusedUnderItself() {
        refused(5, 0, "move a under a;");
        refused(5, 0, "move a under b;");
        refused(5, 0, "move a under c;");
        refused(5, 0, "move d under d;");
        refused(5, 1, "change d { drop x; drop z; } move b under c;");
        refused(5, 1, "move c; move b under b;");
        applied("move c; move b under c;");
        applied("move c under a; move b under c;");
        applied("move a; move b under a; move c under b;");
    }

    /** "6 a KIND dropped that is right above another one" */
    private static void refusedWithAKindBelow() {
        refused(6, 0, "drop a;");
        refused(6, 0, "drop b;");
        refused(6, 1, "kind q under d { } drop d;");
        Checks.same("the lowest first", applied("drop c; drop b; drop a;").kinds(), 1);
        Checks.same("moved away", applied("move b; drop a;").kinds(), 3);
    }

    private static String kinds(int from, int to) {
        StringBuilder text = new StringBuilder();
        for (int i = from; i < to; i++) {
            text.append("kind ").append(Checks.name(i)).append(" { } ");
        }
        return text.toString();
    }

    /** "7 too many KINDS" */
    private static void refusedForThirteenKinds() {
        PondHouse h = Checks.house(kinds(0, 11));
        Checks.refuses(h, "kind a { } kind b { }", 7, 1, -1);
        Checks.refuses(h, "kind a { } kind b { } drop a;", 7, 1, -1);
        Checks.applies(h, "kind a { }");
        Checks.same("twelve", h.kinds(), 12);
        Checks.refuses(h, "kind b { }", 7, 0, -1);
        Checks.applies(h, "drop a; kind b { }");
        Checks.same("twelve", h.kinds(), 12);
        PondHouse none = new PondHouse();
        Checks.same("thirteen of nothing", Checks.patch(none, kinds(0, 13)), 0);
        Checks.same("refused", Checks.make(none, 0), 4);
        Checks.same("why", none.refusal(0), 7);
        Checks.same("the change", none.refusal(1), 12);
        Checks.same("no kinds", none.kinds(), 0);
        Checks.applies(none, kinds(0, 12));
        Checks.same("twelve of nothing", none.kinds(), 12);
    }

    private static String members(String ahead, String behind, int from, int to) {
        StringBuilder text = new StringBuilder();
        for (int i = from; i < to; i++) {
            text.append(ahead).append(Checks.name(i)).append(behind);
        }
        return text.toString();
    }

    /** "or members": 8 FIELDS, 4 STATICS, 8 ACTS of its own */
    private static void refusedForTooManyMembers() {
        full("field ", " = 1; ", "link q;", 8, 3);
        full("link ", "; ", "field q = 1;", 8, 3);
        full("static ", " = 1; ", "static q = 1;", 4, 4);
        full("act ", " { } ", "act q { }", 8, 5);
        Checks.applies(Checks.house("kind a { " + members("field ", "=1;", 0, 8) + "}"), "change a { rename naa q; }");
        Checks.applies(Checks.house("kind a { " + members("act ", "{}", 0, 8) + "}"), "change a { act naa { } act nah { } }");
        Checks.applies(Checks.house("kind a { " + members("field ", "=1;", 0, 8) + "}"), "kind b under a { link q; }");
    }

    private static void full(String ahead, String behind, String more, int most, int what) {
        PondHouse h = Checks.house("kind a { " + members(ahead, behind, 0, most - 1) + "}");
        Checks.applies(h, "change a { " + more + " }");
        Checks.same("full", h.kind(0, what), most);
        String another = more.replace("q", "r");
        Checks.refuses(h, "change a { " + another + " }", 7, 0, -1);
        Checks.refuses(h, "change a { " + another + " drop q; }", 7, 0, -1);
        Checks.applies(h, "change a { drop q; " + another + " }");
        Checks.same("full", h.kind(0, what), most);
        Checks.refuses(h, "kind b { " + members(ahead, behind, 0, most) + more + " }", 7, 0, -1);
        Checks.applies(h, "kind b { " + members(ahead, behind, 0, most) + "}");
    }

    /** "8 a FIELD or STATIC that a KIND above has, too (.. the CHANGE told is NONE)" */
    private static void refusedForMembersAbove() {
        for (String sort : new String[] {"field NAME = 1;", "link NAME;", "static NAME = 1;"}) {
            refused(8, -1, "change b { " + sort.replace("NAME", "x") + " }");
            refused(8, -1, "change c { " + sort.replace("NAME", "s") + " }");
            refused(8, -1, "change a { " + sort.replace("NAME", "u") + " }");
            refused(8, -1, "kind q under c { " + sort.replace("NAME", "y") + " }");
            applied("change d { " + sort.replace("NAME", "u") + " }");
        }
        refused(8, -1, "change a { rename x z; }");
        refused(8, -1, "change c { rename u x; }");
        refused(8, -1, "change a { rename x t; }");
        refused(8, -1, "move d under a;");
        refused(8, -1, "move d under b;");
        refused(8, -1, "change a { field u = 1; } check c 0;");
        applied("change b { act x { } act s { } }");
        applied("change b { field x = 1; } change a { drop x; }");
        applied("move d under a; change d { rename x m; }");
        applied("change b { field x = 1; } move b;");
        // what is asked of the changes is ahead of it
        refused(1, 1, "change b { field x = 1; } drop q;");
    }

    /** Any kind may be the one, also the one with the number 0. */
    private static void refusedForMembersAboveTheFirstKind() {
        refused(8, -1, "move a under d;");
        PondHouse h = Checks.house("kind a { static m = 1; } kind b { static m = 2; }");
        Checks.refuses(h, "move a under b;", 8, -1, -1);
        Checks.applies(h, "move a under b; change a { drop m; }");
        Checks.same("m of a", fixed(h, "a", "m"), 2);
    }

    /** "of a new KIND: 2, 7 of its NAME, 1 of what is above, then its members" */
    private static void newKindsInTheirOrder() {
        refused(2, 0, "kind a under q { field n = 1; field n = 1; }");
        refused(1, 0, "kind q under r { field n = 1; field n = 1; }");
        refused(3, 0, "kind q under a { field n = 1; field n = 1; }");
        PondHouse h = Checks.house(kinds(0, 12));
        Checks.refuses(h, "kind naa under q { }", 2, 0, -1);
        Checks.refuses(h, "kind a under q { }", 7, 0, -1);
        Checks.refuses(h, "kind a { field n = 1; field n = 1; }", 7, 0, -1);
    }

    /** "in one from the left" */
    private static void changesFromTheLeft() {
        refused(3, 0, "change a { field x = 1; drop q; }");
        refused(4, 0, "change a { drop q; field x = 1; }");
        refused(1, 0, "change q { drop r; }");
        refused(1, 0, "move q under r;");
        refused(4, 0, "change a { rename q x; }");
        refused(1, 0, "move r under r;");
        refused(3, 0, "kind q { field m = 1; field m = 1; static n = 1; static o = 1; static p = 1; static q = 1; static r = 1; }");
        refused(7, 0, "kind q { static n = 1; static o = 1; static p = 1; static q = 1; static r = 1; field m = 1; field m = 1; }");
        refused(3, 0, "kind q { static n = 1; static o = 1; static p = 1; static q = 1; static n = 1; }");
    }

    /** "CHANGES are numbered from 0 on, checks, too" */
    private static void changesNumberedFromZero() {
        refused(1, 0, "drop q; drop r;");
        refused(1, 1, "check a 1; drop q;");
        refused(5, 4, "kind q { } change a { } check a 1; move d; move a under b; drop q;");
        refused(4, 3, "drop d; check a 0; change a { field n = 1; link m; } change b { field o = 1; drop q; }");
        PondHouse h = Checks.house(POND);
        Checks.refuses(h, Checks.times(100, "move d;") + "drop q;", 1, 100, -1);
    }

    /** "9 a rule that FAILS .. REFUSED, with the CREATURE told" and "the CHANGE (of 9 the one with the rule)" */
    private static void aRuleThatFails() {
        PondHouse h = Checks.house(POND);
        Checks.create(h, "d");
        Checks.create(h, "a");
        Checks.create(h, "c");
        Checks.refuses(h, "change a { carry x q; }", 9, 0, 1);
        Checks.refuses(h, "check a 0; change d { } change a { carry x 1 / 0; }", 9, 2, 1);
        Checks.refuses(h, "change b { carry z 1 / (x - 1); }", 9, 0, 2);
        Checks.applies(h, "change b { carry q 1 / 0; }");
        Checks.applies(h, "change a { carry x 0; }");
        Checks.same("a rule of 0 is fine", Checks.value(h, 1, "x"), 0);
    }

    private static void aRuleOfTheFirst() {
        PondHouse h = Checks.house(POND);
        for (String kind : "c a b".split(" ")) {
            Checks.create(h, kind);
        }
        put(h, 0, "x", 1);
        put(h, 1, "x", 0);
        put(h, 2, "x", 0);
        Checks.refuses(h, "change a { carry x 1 / x; }", 9, 0, 1);
        // of one creature the field of the kind farthest above, of one kind in their order
        Checks.refuses(h, "change c { carry u q; } change b { carry l q; } change a { carry y 1 / 0; carry x 1 / (x - 1); }", 9, 2, 0);
        Checks.refuses(h, "change c { carry u q; } change b { carry l q; } change b { carry z q; }", 9, 2, 0);
        Checks.refuses(h, "change c { carry u q; } change b { carry l q; }", 9, 1, 0);
        Checks.refuses(h, "change c { carry u q; }", 9, 0, 0);
    }

    /** "E must not be 0", "10 a check that is 0 or FAILS" */
    private static void aCheckThatIsZero() {
        PondHouse h = Checks.house(POND);
        Checks.create(h, "a");
        Checks.refuses(h, "check a 0;", 10, 0, 0);
        Checks.refuses(h, "check a x - 1;", 10, 0, 0);
        Checks.refuses(h, "check a v;", 10, 0, 0);
        Checks.refuses(h, "check a last;", 10, 0, 0);
        Checks.refuses(h, "check a q;", 10, 0, 0);
        Checks.refuses(h, "check a 1 / (x - 1);", 10, 0, 0);
        Checks.patch(h, "check a 1;");
        PondHouse fine = Checks.house(POND);
        Checks.create(fine, "a");
        for (String e : new String[] {"1", "-1", "x", "x == 1", "x - 2"}) {
            Checks.applies(fine, "check a " + e + ";");
        }
        put(fine, 0, "x", MIN);
        Checks.applies(fine, "check a x;");
    }

    /** "Then each check, in order: of each living CREATURE .., by numbers" */
    private static void checksInOrder() {
        PondHouse h = Checks.house(POND);
        for (String kind : "d c a b".split(" ")) {
            Checks.create(h, kind);
        }
        Checks.refuses(h, "check a 0;", 10, 0, 1);
        Checks.refuses(h, "check b 0; check d 0;", 10, 0, 1);
        Checks.refuses(h, "check d 0; check b 0;", 10, 0, 0);
        Checks.refuses(h, "check a 1; check b x; check b z - 4;", 10, 2, 1);
        put(h, 1, "x", 9);
        Checks.refuses(h, "check a x - 1;", 10, 0, 2);
        // the first check of the last creature is ahead of the second one of the first
        put(h, 3, "x", 8);
        Checks.refuses(h, "check a x - 8; check a 0;", 10, 0, 3);
    }

    private static void checksOfNobody() {
        PondHouse h = Checks.house(POND);
        Checks.applies(h, "check a 0; check b 0; check c 0; check d 1 / 0;");
        Checks.create(h, "a");
        Checks.create(h, "d");
        Checks.applies(h, "check b 0; check c 0;");
        Checks.applies(h, "check d 0; drop d;");
        Checks.applies(h, "kind q { } check q 0;");
        Checks.refuses(h, "check a 0;", 10, 0, 0);
    }

    private static void checksOfWhatIsNew() {
        PondHouse h = Checks.house(POND);
        Checks.create(h, "b");
        Checks.applies(h, "check b n == 7; check a m == 8; check b x == 11; change b { field n = 7; } change a { static m = 8; carry x x + 10; }");
        Checks.refuses(h, "check d 0; move b under d; change d { drop x; drop z; }", 10, 0, 0);
        Checks.applies(h, "check a 0; move b;");
    }

    private static void checksUpToTheLastCreature() {
        PondHouse h = Checks.house("kind a { field x = 1; }");
        int a = Checks.n(h, "a");
        for (int c = 0; c < 40; c++) {
            h.create(a);
        }
        put(h, 39, "x", 0);
        Checks.refuses(h, "check a x;", 10, 0, 39);
        Checks.refuses(h, "change a { carry x 1 / x; }", 9, 0, 39);
        Checks.applies(h, "change a { carry x x + 5; }");
        Checks.same("the last is carried", Checks.value(h, 39, "x"), 5);
        Checks.same("the first, too", Checks.value(h, 0, "x"), 6);
    }

    /** "and all is as it was" */
    private static void refusedAllIsAsItWas() {
        String[] texts = {
            "change a { drop x; field n = 1; static so = 4; act f { give 9; } carry y 77; } drop d; kind q { } move c; check b 0;",
            "change a { rename x n; } change b { carry z 50; } change c { carry u 1 / 0; }",
            "change a { drop x; } change b { drop z; } drop c; drop b; drop b;",
        };
        for (String text : texts) {
            PondHouse h = Checks.house(POND);
            for (String kind : "b c d".split(" ")) {
                Checks.create(h, kind);
            }
            put(h, 0, "x", 10);
            put(h, 0, "z", 20);
            int k = Checks.patch(h, text);
            Checks.same("refused", Checks.make(h, k), 4);
            Checks.same("kinds", h.kinds(), 4);
            int[][] due = {{2, 1, 1}, {2, 1, 2}, {1, 0, 0}, {2, 0, 0}};
            for (int i = 0; i < 4; i++) {
                Checks.same("generation", h.kind(i, 2), 0);
                for (int j = 0; j < 3; j++) {
                    Checks.same("members", h.kind(i, 3 + j), due[i][j]);
                }
            }
            Checks.same("above c", h.kind(2, 1), Checks.n(h, "b"));
            Checks.same("x", Checks.value(h, 0, "x"), 10);
            Checks.same("y", Checks.value(h, 0, "y"), 2);
            Checks.same("z", Checks.value(h, 0, "z"), 20);
            Checks.same("nothing is new", Checks.value(h, 0, "n"), 0);
            Checks.same("d lives", h.kindOf(2), Checks.n(h, "d"));
            Checks.same("f gives", Checks.act(h, 0, "f", 0), 0);
            Checks.same("as before", h.told(0), 0);
            Checks.no("nothing to take back", h.back());
        }
    }

    /** Statics, what is lost, long acts and the patch that back() takes are as they were, too. */
    private static void refusedAllElseIsAsItWas() {
        PondHouse h = Checks.house("kind a { field x = 1; static s = 2; act g { s = s + 1; rest; s = s + 10; rest; s = s + 100; } } kind b { act g { rest; rest; } }");
        Checks.create(h, "a");
        Checks.create(h, "b");
        Checks.applies(h, "change a { drop x; }");
        h.begin(0, Checks.n(h, "g"), 0);
        h.begin(1, Checks.n(h, "g"), 0);
        Checks.refuses(h, "change a { field x = 5; drop s; static t = 6; act g { } } drop b; check a 0;", 10, 2, 0);
        Checks.same("what is lost", Checks.value(h, 0, "x"), 1);
        Checks.no("no field", Checks.has(h, 0, "x"));
        Checks.same("s", fixed(h, "a", "s"), 3);
        Checks.same("no t", fixed(h, "a", "t"), 0);
        for (int l = 0; l < 2; l++) {
            Checks.same("under way", h.under(l, 0), 1);
            Checks.same("runs", h.under(l, 1), 1);
        }
        h.beat();
        Checks.same("it goes on", fixed(h, "a", "s"), 13);
        Checks.same("the former body is begun", h.begin(0, Checks.n(h, "g"), 0), 2);
        h.beat();
        Checks.same("all of them", fixed(h, "a", "s"), 114);
        Checks.yes("back of the one ahead of it", h.back());
        Checks.same("x", Checks.value(h, 0, "x"), 1);
        Checks.yes("is a field", Checks.has(h, 0, "x"));
    }

    /** "Of the latest PATCH that was REFUSED" */
    private static void refusalOfTheLatest() {
        PondHouse h = Checks.house("kind a { }");
        Checks.create(h, "a");
        Checks.refuses(h, "move a; check a 0;", 10, 1, 0);
        Checks.applies(h, "change a { }");
        Checks.same("one applied since", h.refusal(0), 10);
        Checks.same("one applied since", h.refusal(1), 1);
        Checks.same("one applied since", h.refusal(2), 0);
        Checks.refuses(h, "drop q;", 1, 0, -1);
        for (int what : new int[] {MIN, -2, -1, 3, 4, MAX}) {
            Checks.same("refusal(" + what + ")", h.refusal(what), -1);
        }
    }

    /** "0, NONE, NONE ahead of any" */
    private static void refusalAheadOfAny() {
        PondHouse h = Checks.house("kind a { }");
        Checks.applies(h, "change a { }");
        Checks.yes("back", h.back());
        Checks.same("a patch with a fault is not refused", Checks.patch(h, "drop"), -1);
        Checks.same("why", h.refusal(0), 0);
        Checks.same("the change", h.refusal(1), -1);
        Checks.same("the creature", h.refusal(2), -1);
    }

    /** "1 with the first PATCH that is APPLIED since the pond was told, one more with each (0 of a pond's)" */
    private static void generationsOneByOne() {
        PondHouse h = Checks.house("kind a { } kind b { }");
        int a = Checks.create(h, "a");
        for (int turn = 1; turn <= 3; turn++) {
            Checks.same("of a pond's", h.kind(1, 2), 0);
            Checks.applies(h, "change a { }");
            Checks.same("one more", h.kind(0, 2), turn);
            Checks.same("of the creature", h.generation(a), turn);
        }
        Checks.applies(h, "change b { }");
        Checks.same("of all patches", h.kind(1, 2), 4);
        Checks.same("the other stays", h.kind(0, 2), 3);
        Checks.applies(h, "kind c { }");
        Checks.same("of a new one", h.kind(2, 2), 5);
        Checks.pond(h, "kind a { }");
        Checks.same("told anew", h.kind(0, 2), 0);
        Checks.applies(h, "change a { }");
        Checks.same("the first again", h.kind(0, 2), 1);
    }

    private static void generations(String text, int... due) {
        PondHouse h = applied(text);
        Checks.same("kinds", h.kinds(), due.length);
        for (int i = 0; i < due.length; i++) {
            Checks.same("generation of " + i + " behind " + text, h.kind(i, 2), due[i]);
        }
    }

    /** "KINDS that a CHANGE was of (not check), new ones, and those under them" */
    private static void generationsOfThoseUnder() {
        generations("change a { }", 1, 1, 1, 0);
        generations("change b { }", 0, 1, 1, 0);
        generations("change c { }", 0, 0, 1, 0);
        generations("change d { }", 0, 0, 0, 1);
        generations("move c;", 0, 0, 1, 0);
        generations("move b;", 0, 1, 1, 0);
        generations("move c under a;", 0, 0, 1, 0);
        generations("kind q { }", 0, 0, 0, 0, 1);
        generations("kind q under c { }", 0, 0, 0, 0, 1);
        generations("kind q { } move d under q;", 0, 0, 0, 1, 1);
        generations("drop c; kind c { }", 0, 0, 0, 1);
    }

    private static void generationsWithoutAChange() {
        generations("check a 1;", 0, 0, 0, 0);
        generations("drop d;", 0, 0, 0);
        generations("drop c;", 0, 0, 0);
        generations("kind q { } drop q;", 0, 0, 0, 0);
        PondHouse h = Checks.house("kind a { }");
        Checks.applies(h, "check a 1;");
        Checks.applies(h, "change a { }");
        Checks.same("it was one all the same", h.kind(0, 2), 2);
    }

    private static void generationsOfRefusedOnes() {
        PondHouse h = Checks.house("kind a { }");
        Checks.create(h, "a");
        Checks.refuses(h, "change a { } check a 0;", 10, 1, 0);
        Checks.refuses(h, "change a { } drop q;", 1, 1, -1);
        Checks.same("as it was", h.kind(0, 2), 0);
        Checks.applies(h, "change a { }");
        Checks.same("the first that is applied", h.kind(0, 2), 1);
        Checks.yes("back", h.back());
        Checks.applies(h, "change a { }");
        Checks.same("the second", h.kind(0, 2), 2);
    }

    /** "New KINDS come behind the others." */
    private static void newKindsBehind() {
        PondHouse h = applied("kind q { } drop d; kind r under q { } drop c; kind d { }");
        String[] due = "a b q r d".split(" ");
        Checks.same("kinds", h.kinds(), due.length);
        for (int i = 0; i < due.length; i++) {
            Checks.same("kind", h.kind(i, 0), Checks.n(h, due[i]));
        }
    }

    /** "by the latest rule (carry NAME E) of a change of its KIND or one above (in the order of the text)" */
    private static void theLatestRule() {
        PondHouse h = Checks.house(POND);
        Checks.create(h, "b");
        Checks.applies(h, "change a { carry x 11; carry x 12; }");
        Checks.same("of two", Checks.value(h, 0, "x"), 12);
        Checks.applies(h, "change b { carry z 13; } change a { } change b { carry z 14; }");
        Checks.same("of two changes", Checks.value(h, 0, "z"), 14);
        Checks.applies(h, "change a { carry x q; } change a { carry x 15; }");
        Checks.same("the earlier is not worked out", Checks.value(h, 0, "x"), 15);
        Checks.applies(h, "change d { carry x 16; }");
        Checks.same("of another kind", Checks.value(h, 0, "x"), 15);
        Checks.applies(h, "change c { carry x 17; }");
        Checks.same("of a kind under it", Checks.value(h, 0, "x"), 15);
    }

    /** "worked out with the CREATURE as it was (v, last 0)" */
    private static void rulesWithTheCreatureAsItWas() {
        PondHouse h = Checks.house("kind a { field x = 1; field y = 2; static s = 3; field w = 4; }");
        Checks.create(h, "a");
        put(h, 0, "x", 10);
        Checks.applies(h, "change a { carry x y; carry y x; drop w; carry z w; field z = 5; drop s; static s = 6; field u = 0; carry u s * 100 + v + last; }");
        Checks.same("x", Checks.value(h, 0, "x"), 2);
        Checks.same("y", Checks.value(h, 0, "y"), 10);
        Checks.same("z", Checks.value(h, 0, "z"), 4);
        Checks.same("u", Checks.value(h, 0, "u"), 300);
        Checks.applies(h, "change a { carry x w + 1; }");
        Checks.same("of what is lost", Checks.value(h, 0, "x"), 5);
        Checks.refuses(h, "change a { field n = 1; carry x n; }", 9, 0, 0);
        Checks.refuses(h, "change a { static m = 1; carry x m; }", 9, 0, 0);
    }

    /** "COMES from the own FIELD of this KIND that it was ahead of the PATCH, under the same NAME or renamed" */
    private static void comesUnderTheSameName() {
        PondHouse h = Checks.house(POND);
        Checks.create(h, "c");
        String[] names = {"x", "y", "z", "l", "u"};
        for (int i = 0; i < names.length; i++) {
            put(h, 0, names[i], 10 + i);
        }
        Checks.applies(h, "change a { } change b { } change c { }");
        for (int i = 0; i < names.length; i++) {
            Checks.same("value", Checks.value(h, 0, names[i]), 10 + i);
        }
        Checks.applies(h, "change a { rename x n; } change b { rename l m; }");
        Checks.same("n", Checks.value(h, 0, "n"), 10);
        Checks.same("m", Checks.value(h, 0, "m"), 13);
        Checks.same("x is not lost", Checks.value(h, 0, "x"), 0);
        Checks.same("l is not lost", Checks.value(h, 0, "l"), 0);
        Checks.applies(h, "change a { field o = 77; link p; }");
        Checks.same("else the first one", Checks.value(h, 0, "o"), 77);
        Checks.same("of a link", Checks.value(h, 0, "p"), -1);
    }

    /** "(step by step, if several times" */
    private static void comesStepByStep() {
        PondHouse h = Checks.house("kind a { field x = 1; field y = 2; }");
        Checks.create(h, "a");
        put(h, 0, "x", 10);
        put(h, 0, "y", 20);
        Checks.applies(h, "change a { rename x n; rename y x; } change a { rename n m; rename x n; rename m y; }");
        Checks.same("y was x", Checks.value(h, 0, "y"), 10);
        Checks.same("n was y", Checks.value(h, 0, "n"), 20);
        Checks.no("no x", Checks.has(h, 0, "x"));
        Checks.same("x is not lost", Checks.value(h, 0, "x"), 0);
        Checks.same("m is nothing", Checks.value(h, 0, "m"), 0);
        Checks.applies(h, "change a { rename y o; rename o y; }");
        Checks.same("there and back", Checks.value(h, 0, "y"), 10);
    }

    /** "one told anew, also under a NAME that was dropped or renamed, comes from none)" */
    private static void comesFromNone() {
        for (String text : new String[] {"drop x; field x = 7;", "rename x n; field x = 7;", "drop x; field n = 7; rename n x;", "rename x n; drop n; field x = 7;"}) {
            PondHouse h = Checks.house("kind a { field x = 1; }");
            Checks.create(h, "a");
            put(h, 0, "x", 10);
            Checks.applies(h, "change a { " + text + " }");
            Checks.same("x behind " + text, Checks.value(h, 0, "x"), 7);
            Checks.applies(h, "change a { drop x; }");
            Checks.same("the latest lost", Checks.value(h, 0, "x"), 7);
        }
        PondHouse h = Checks.house("kind a { field x = 1; }");
        Checks.create(h, "a");
        put(h, 0, "x", 10);
        Checks.applies(h, "change a { drop x; }");
        Checks.applies(h, "change a { field x = 7; }");
        Checks.same("nor from what is lost", Checks.value(h, 0, "x"), 7);
    }

    /** "else from a FIELD of its NAME that the CREATURE had of another KIND, if that KIND still has that own FIELD" */
    private static void comesOfAnotherKind() {
        PondHouse h = Checks.house(POND);
        Checks.create(h, "b");
        put(h, 0, "x", 10);
        put(h, 0, "y", 20);
        Checks.applies(h, "change d { rename z k; } move b under d;");
        Checks.same("x of d by its name", Checks.value(h, 0, "x"), 10);
        Checks.same("k of d is new to it", Checks.value(h, 0, "k"), 7);
        Checks.same("z is its own", Checks.value(h, 0, "z"), 4);
        Checks.no("no y", Checks.has(h, 0, "y"));
        Checks.same("y is lost", Checks.value(h, 0, "y"), 20);
        Checks.applies(h, "move b under a;");
        Checks.same("x of a by its name", Checks.value(h, 0, "x"), 10);
        Checks.same("y does not come from what is lost", Checks.value(h, 0, "y"), 2);
        Checks.same("k is lost", Checks.value(h, 0, "k"), 7);
    }

    /** "not dropped or renamed" */
    private static void comesNotOfWhatIsGone() {
        for (String text : new String[] {"change a { drop x; }", "change a { rename x n; }", "change a { drop x; field x = 9; }", "change a { rename x n; rename y x; }"}) {
            PondHouse h = Checks.house(POND);
            Checks.create(h, "b");
            put(h, 0, "x", 10);
            Checks.applies(h, text + " change d { drop z; } move b under d;");
            Checks.same("x behind " + text, Checks.value(h, 0, "x"), 6);
        }
        PondHouse h = Checks.house(POND);
        Checks.create(h, "b");
        put(h, 0, "x", 10);
        Checks.applies(h, "change d { drop z; } move b under d; drop a;");
        Checks.same("x as its kind is dropped", Checks.value(h, 0, "x"), 6);
    }

    /** "are LOST with the values that they had, beside those LOST before (a NAME has the latest one)" */
    private static void lostAndTheLatestLost() {
        PondHouse h = Checks.house("kind a { field x = 1; field y = 2; link l; }");
        Checks.create(h, "a");
        put(h, 0, "x", MIN);
        Checks.applies(h, "change a { drop x; }");
        Checks.applies(h, "change a { drop y; }");
        Checks.same("x", Checks.value(h, 0, "x"), MIN);
        Checks.same("y", Checks.value(h, 0, "y"), 2);
        Checks.applies(h, "change a { field x = 5; }");
        put(h, 0, "x", MAX);
        Checks.applies(h, "change a { drop x; drop l; }");
        Checks.same("the latest x", Checks.value(h, 0, "x"), MAX);
        Checks.same("l", Checks.value(h, 0, "l"), -1);
        Checks.same("y still", Checks.value(h, 0, "y"), 2);
    }

    /** "from which none COMES": a field that comes from it, but has its value by a rule, is one. */
    private static void notLostWhereARuleIs() {
        PondHouse h = Checks.house("kind a { field x = 1; field y = 2; }");
        Checks.create(h, "a");
        Checks.applies(h, "change a { rename x n; carry n 7; drop y; carry n y; }");
        Checks.same("n", Checks.value(h, 0, "n"), 2);
        Checks.same("x is not lost", Checks.value(h, 0, "x"), 0);
        Checks.same("y is, though the rule has it", Checks.value(h, 0, "y"), 2);
    }

    private static void carriedOnlyWhereChanged() {
        PondHouse h = Checks.house("kind a { field x = 1; } kind b { field x = 1; } kind c under b { }");
        Checks.create(h, "a");
        Checks.create(h, "b");
        Checks.create(h, "c");
        Checks.applies(h, "change b { carry x 5; }");
        int[] due = {1, 5, 5};
        int[] generation = {0, 1, 1};
        for (int c = 0; c < 3; c++) {
            Checks.same("x", Checks.value(h, c, "x"), due[c]);
            Checks.same("generation", h.generation(c), generation[c]);
        }
    }

    /** "CREATURES whose KIND .. is not there any more END." */
    private static void endedCreatures() {
        PondHouse h = Checks.house(POND);
        for (String kind : "c d c a".split(" ")) {
            Checks.create(h, kind);
        }
        Checks.applies(h, "drop c;");
        int[] lives = {0, 1, 0, 1};
        for (int c = 0; c < 4; c++) {
            Checks.same("lives", h.kindOf(c) >= 0 ? 1 : 0, lives[c]);
        }
        Checks.applies(h, "kind c { }");
        Checks.same("it stays ended", h.kindOf(0), -1);
    }

    /** "(by its NAME: one that was dropped and is new in one PATCH is there; its FIELDS come from none of its former ones)" */
    private static void droppedAndNewInOne() {
        PondHouse h = Checks.house("kind a { field x = 1; static s = 2; } kind b { }");
        Checks.create(h, "a");
        put(h, 0, "x", 10);
        Checks.applies(h, "drop a; kind a { field x = 5; field y = 6; }");
        Checks.same("it lives", h.kindOf(0), Checks.n(h, "a"));
        Checks.same("x", Checks.value(h, 0, "x"), 5);
        Checks.same("y", Checks.value(h, 0, "y"), 6);
        Checks.same("generation", h.generation(0), 1);
        Checks.applies(h, "change a { rename x n; }");
        Checks.same("the former x is lost", Checks.value(h, 0, "x"), 10);
        Checks.same("the kind came last", h.kind(1, 0), Checks.n(h, "a"));
    }

    /** "STATICS of KINDS and NAMES that were there keep their values, new ones have the told one." */
    private static void staticsKeepTheirValues() {
        PondHouse h = Checks.house("kind a { static s = 1; act g { s = v; } } kind b { }");
        Checks.create(h, "a");
        Checks.act(h, 0, "g", MIN);
        Checks.applies(h, "change a { static t = 5; } change b { static s = 6; }");
        Checks.same("s", fixed(h, "a", "s"), MIN);
        Checks.same("t", fixed(h, "a", "t"), 5);
        Checks.same("of another kind", fixed(h, "b", "s"), 6);
        Checks.applies(h, "change a { drop s; }");
        Checks.applies(h, "change a { static s = 7; }");
        Checks.same("it was not there", fixed(h, "a", "s"), 7);
    }

    /** "false if there is none" */
    private static void backOfNothing() {
        PondHouse h = new PondHouse();
        Checks.no("a new object", h.back());
        Checks.pond(h, "kind a { }");
        Checks.no("no patch", h.back());
        int k = Checks.patch(h, "drop q;");
        Checks.no("one that is kept", h.back());
        Checks.same("refused", Checks.make(h, k), 4);
        Checks.no("one that is refused", h.back());
    }

    /** "or the latest one was taken back already" */
    private static void backOfTheLatestAlone() {
        PondHouse h = Checks.house("kind a { }");
        Checks.applies(h, "kind b { }");
        Checks.applies(h, "kind c { }");
        Checks.yes("the latest", h.back());
        Checks.same("kinds", h.kinds(), 2);
        Checks.same("state", h.applied(1), 5);
        Checks.no("not the one ahead of it", h.back());
        Checks.same("kinds", h.kinds(), 2);
        Checks.same("state", h.applied(0), 2);
        Checks.same("made again", Checks.make(h, 1), 2);
        Checks.yes("the latest again", h.back());
        Checks.no("once", h.back());
    }

    /** "one WAITS" */
    private static void backWhileOneWaits() {
        PondHouse h = forbidden();
        h.forbid(0, false);
        Checks.same("made", Checks.make(h, 0), 2);
        h.forbid(0, true);
        h.apply(0);
        for (int i = 0; i < 8; i++) {
            Checks.no("one waits", h.back());
            h.beat();
        }
        Checks.yes("it was given up", h.back());
        Checks.same("generation", h.kind(0, 2), 0);
    }

    /** "the one APPLIED last (not yet taken back)": a refused one is none. */
    private static void backBehindOthers() {
        PondHouse h = Checks.house("kind a { }");
        Checks.applies(h, "kind b { }");
        Checks.refuses(h, "drop q;", 1, 0, -1);
        h.beat();
        Checks.yes("back", h.back());
        Checks.same("the applied one", h.applied(0), 5);
        Checks.same("the refused one", h.applied(1), 4);
        Checks.same("kinds", h.kinds(), 1);
    }

    /** "KINDS are those from before it, with their GENERATIONS." */
    private static void backToKinds() {
        PondHouse h = Checks.house(POND);
        Checks.applies(h, "change c { }");
        Checks.applies(h, "change a { drop x; field n = 1; act f { give 9; } } move d under a; change d { drop x; } kind q { } drop c; change d { field w = 1; }");
        Checks.yes("back", h.back());
        int[][] due = {{-1, 0, 2, 1, 1}, {0, 0, 2, 1, 2}, {1, 1, 1, 0, 0}, {-1, 0, 2, 0, 0}};
        Checks.same("kinds", h.kinds(), 4);
        for (int i = 0; i < 4; i++) {
            Checks.same("name", h.kind(i, 0), Checks.n(h, "abcd".substring(i, i + 1)));
            Checks.same("above", h.kind(i, 1), due[i][0] < 0 ? -1 : h.kind(due[i][0], 0));
            for (int what = 2; what < 6; what++) {
                Checks.same("kind(" + i + ", " + what + ")", h.kind(i, what), due[i][what - 1]);
            }
        }
        int a = Checks.create(h, "a");
        Checks.same("f", Checks.act(h, a, "f", 0), 0);
        Checks.same("the former body", h.told(0), 0);
    }

    /** "the value now of the FIELD that COMES from it ..; else what is LOST under that NAME; else the first value" */
    private static void backOfCreatures() {
        PondHouse h = Checks.house("kind a { field x = 1; field y = 2; }");
        Checks.create(h, "a");
        put(h, 0, "x", 10);
        put(h, 0, "y", 20);
        Checks.applies(h, "change a { rename x n; drop y; field m = 5; }");
        Checks.create(h, "a");
        put(h, 0, "n", MAX);
        put(h, 1, "n", MIN);
        Checks.yes("back", h.back());
        Checks.same("the value now", Checks.value(h, 0, "x"), MAX);
        Checks.same("what is lost", Checks.value(h, 0, "y"), 20);
        Checks.same("of one made since", Checks.value(h, 1, "x"), MIN);
        Checks.same("the first value", Checks.value(h, 1, "y"), 2);
        for (int c = 0; c < 2; c++) {
            Checks.no("no m", Checks.has(h, c, "m"));
            Checks.no("no n", Checks.has(h, c, "n"));
        }
    }

    /** "CREATURES of KINDS that it dropped have ENDED; those of KINDS that it made END." */
    private static void backOfMadeAndDropped() {
        PondHouse h = Checks.house("kind a { } kind b { }");
        Checks.create(h, "b");
        Checks.create(h, "a");
        Checks.applies(h, "drop b; kind c { }");
        Checks.create(h, "c");
        Checks.create(h, "a");
        Checks.yes("back", h.back());
        int[] lives = {0, 1, 0, 1};
        for (int c = 0; c < 4; c++) {
            Checks.same("lives", h.kindOf(c) >= 0 ? 1 : 0, lives[c]);
        }
        Checks.same("the next number", Checks.create(h, "b"), 4);
        Checks.same("no such kind", h.create(Checks.n(h, "c")), -1);
    }

    /** "STATICS of KINDS and NAMES that are there now keep their values, others have those that they had." */
    private static void backOfStatics() {
        PondHouse h = Checks.house("kind a { static s = 1; static t = 2; act g { s = s + v; t = t + v; } act f { s = s + v; } } kind b { static u = 3; act g { u = u + v; } }");
        Checks.create(h, "a");
        Checks.create(h, "b");
        Checks.act(h, 0, "g", 10);
        Checks.act(h, 1, "g", 10);
        Checks.applies(h, "change a { drop t; static w = 9; } drop b;");
        Checks.act(h, 0, "f", 100);
        Checks.yes("back", h.back());
        Checks.same("s keeps its value", fixed(h, "a", "s"), 111);
        Checks.same("t has the one that it had", fixed(h, "a", "t"), 12);
        Checks.same("u has the one that it had", fixed(h, "b", "u"), 13);
        Checks.same("w is gone", fixed(h, "a", "w"), 0);
    }

    /** "nothing more is LOST by that" */
    private static void backLosesNothing() {
        PondHouse h = Checks.house("kind a { field x = 1; act g { give m; } }");
        Checks.create(h, "a");
        Checks.applies(h, "change a { field m = 5; }");
        put(h, 0, "m", 6);
        Checks.yes("back", h.back());
        Checks.same("m", Checks.value(h, 0, "m"), 0);
        Checks.same("g", Checks.act(h, 0, "g", 0), 1);
        Checks.same("with 1001", h.told(1), 1001);
    }

    /** "For the others of KINDS that it changed": up to creature 39. */
    private static void backOfFortyCreatures() {
        PondHouse h = Checks.house("kind a { field x = 1; } kind b { }");
        for (int c = 0; c < 40; c++) {
            Checks.same("create", h.create(Checks.n(h, c % 2 == 1 ? "a" : "b")), c);
        }
        Checks.applies(h, "change a { rename x y; } drop b;");
        put(h, 1, "y", 5);
        put(h, 39, "y", 6);
        Checks.yes("back", h.back());
        Checks.same("creature 1", Checks.value(h, 1, "x"), 5);
        Checks.same("creature 39", Checks.value(h, 39, "x"), 6);
        Checks.same("its generation", h.generation(39), 0);
        Checks.same("one of what was dropped", h.kindOf(38), -1);
        Checks.applies(h, "kind c { }");
        Checks.yes("back", h.back());
        Checks.same("creature 39 stays", Checks.value(h, 39, "x"), 6);
    }

    private static void backOfEightFields() {
        PondHouse h = new PondHouse();
        Checks.same("name 0 is a field's", Checks.n(h, "p"), 0);
        Checks.same("pond", Checks.pond(h, "kind a { field p = 1; field q = 2; field r = 3; field s = 4; field t = 5; field u = 6; field w = 7; field x = 8; }"), 1);
        Checks.create(h, "a");
        Checks.applies(h, "change a { rename p y; rename x p; }");
        Checks.applies(h, "change a { rename p x; drop q; field p = 9; drop u; }");
        put(h, 0, "p", 99);
        put(h, 0, "x", 80);
        put(h, 0, "y", 10);
        Checks.yes("back", h.back());
        String[] names = {"y", "q", "r", "s", "t", "u", "w", "p"};
        int[] due = {10, 2, 3, 4, 5, 6, 7, 80};
        for (int i = 0; i < 8; i++) {
            Checks.same("field " + names[i], Checks.value(h, 0, names[i]), due[i]);
            Checks.yes("has " + names[i], Checks.has(h, 0, names[i]));
        }
    }

    /** "new ones have the told one", whatever is dropped around them */
    private static void newStaticsBesideDroppedOnes() {
        PondHouse h = Checks.house("kind a { static s = 1; static t = 2; }");
        Checks.applies(h, "change a { static n = 5; static m = 6; drop m; static p = 7; drop s; }");
        Checks.same("t", fixed(h, "a", "t"), 2);
        Checks.same("n", fixed(h, "a", "n"), 5);
        Checks.same("p", fixed(h, "a", "p"), 7);
        Checks.same("m", fixed(h, "a", "m"), 0);
        Checks.same("s", fixed(h, "a", "s"), 0);
    }
}
