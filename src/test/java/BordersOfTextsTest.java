/** Term I, sentence by sentence: what is too short, too long, too many in a text; the least of both sides. */
public final class BordersOfTextsTest {
    private static final String[] WORDS = ("kind under field link static act give fail above do send rest if else v last"
            + " change drop move rename carry check").split(" ");
    private static final String TWELVE = Checks.times(12, "(");
    private static final String TWELVE_CLOSED = Checks.times(12, ")");

    public static void main(String[] args) {
        namesHaveOneToSixLetters();
        wordsAreNoNames();
        wordsWithALetterMoreOrLessAreNames();
        numbersHaveOneToSixDigits();
        signsAndOtherBytes();
        equalSigns();
        blanksBetween();
        endCutsTokens();
        oneKindAtLeast();
        oneChangeAtLeast();
        noMembersNoEditsNoStatements();
        oneComparison();
        oneSignOfANumber();
        theEndOfAPond();
        theEndOfAPatch();
        aTokenIsMissingInAPond();
        aTokenIsMissingInAPatch();
        theFirstFaultByItsPlace();
        oneIsLessThanTwoAndThree();
        twoIsLessThanThree();
        threeIsLessThanFourAndFive();
        fourIsLessThanFive();
        restOfTheOwnBlock();
        restOfOtherPlaces();
        thirteenBrackets();
        thirteenMinuses();
        thirteenIfs();
        thirteenOfAllSorts();
        openAroundEachStatement();
        signsOpenInRules();
        signsThatClose();
        sixtyOneStatements();
        sixtyOneStatementsWithin();
        sixtyOneStatementsOfAPatch();
        eachActHasSixty();
        fortyFirstNameOfAPond();
        fortyFirstNameOfAPatch();
        fortyFirstWord();
        fortyNamesOfAllTexts();
        numbersOfNamesByTheirPlaces();
        numbersOfNamesOfAPatch();
        noNumberWhereNoneCanStand();
        aNumberAtFaultsFourAndFive();
        noNumberAtFaultThree();
        aNumberByWordWithMoreBehind();
        Checks.endWithCode();
    }

    /** "NAMES (1 to 6 small letters .. longer ones are none)" */
    private static void namesHaveOneToSixLetters() {
        Checks.pondFine(1, "kind a { field b = 1; }");
        Checks.pondFine(1, "kind abcdef { field ghijkl = 1; act mnopqr { ghijkl = stuvwx; } }");
        Checks.pondFault(1, "kind ^abcdefg { }");
        Checks.pondFault(1, "kind ^abcdefghijklm { }");
        Checks.pondFault(1, "kind a under ^abcdefg { }");
        Checks.pondFault(1, "kind a { field ^abcdefg = 1; }");
        Checks.pondFault(1, "kind a { link ^abcdefg; }");
        Checks.pondFault(1, "kind a { static ^abcdefg = 1; }");
        Checks.pondFault(1, "kind a { act ^abcdefg { } }");
        Checks.pondFault(1, "kind a { act g { ^abcdefg = 1; } }");
        Checks.pondFault(1, "kind a { act g { x = ^abcdefg; } }");
        Checks.pondFault(1, "kind a { act g { do ^abcdefg; } }");
        Checks.pondFault(1, "kind a { act g { send ^abcdefg g; } }");
        Checks.pondFault(1, "kind a { act g { send x ^abcdefg; } }");
        Checks.patchFault(1, "change a { rename b ^abcdefg; }");
        PondHouse h = new PondHouse();
        Checks.tape(h, "abcdefg");
        Checks.same("seven letters", h.word(), -1);
        Checks.same("six letters", Checks.n(h, "abcdef"), 0);
        Checks.same("its first five are another name", Checks.n(h, "abcde"), 1);
        Checks.same("one letter", Checks.n(h, "z"), 2);
        Checks.same("six of the last letter", Checks.n(h, "zzzzzz"), 3);
        Checks.tape(h, "abcdeF");
        Checks.same("a letter that is not small", h.word(), -1);
    }

    /** "none of the WORDS kind under field .." */
    private static void wordsAreNoNames() {
        Checks.same("words", WORDS.length, 22);
        for (String word : WORDS) {
            Checks.pondFault(1, "kind ^" + word + " { }");
            Checks.pondFault(1, "kind a { field ^" + word + " = 1; }");
            Checks.pondFault(1, "kind a { act g { do ^" + word + "; } }");
            PondHouse h = new PondHouse();
            Checks.tape(h, word);
            Checks.same("word of " + word, h.word(), -1);
            Checks.same("none of the names", Checks.n(h, "a"), 0);
        }
    }

    private static void wordsWithALetterMoreOrLessAreNames() {
        for (String word : WORDS) {
            if (word.length() < 6) {
                Checks.pondFine(1, "kind " + word + "x { field x" + word + " = 1; }");
            }
            if (word.length() > 1) {
                Checks.pondFine(1, "kind " + word.substring(1) + " { field " + word.substring(0, word.length() - 1) + " = 1; }");
            }
        }
    }

    /** "NUMBERS (1 to 6 digits" */
    private static void numbersHaveOneToSixDigits() {
        PondHouse h = Checks.house("kind a { field x = 0; field y = 9; field z = 000000; field u = 999999; field w = -999999; static s = 100000;"
                + " act g { give 999999 + 000001; } }");
        int c = Checks.create(h, "a");
        Checks.same("x", Checks.value(h, c, "x"), 0);
        Checks.same("y", Checks.value(h, c, "y"), 9);
        Checks.same("z", Checks.value(h, c, "z"), 0);
        Checks.same("u", Checks.value(h, c, "u"), 999999);
        Checks.same("w", Checks.value(h, c, "w"), -999999);
        Checks.same("s", h.fixed(Checks.n(h, "a"), Checks.n(h, "s")), 100000);
        Checks.act(h, c, "g", 0);
        Checks.same("six digits of a sum", h.told(0), 1000000);
        Checks.pondFault(1, "kind a { field x = ^0000001; }");
        Checks.pondFault(1, "kind a { field x = -^1000000; }");
        Checks.pondFault(1, "kind a { static x = ^1234567890123; }");
        Checks.pondFault(1, "kind a { act g { give 1 + ^9999999; } }");
        Checks.patchFault(1, "change a { carry x ^0000000; }");
        Checks.patchFault(1, "check a ^1000000;");
        Checks.pondFault(1, "kind a { field x = ^; }");
        Checks.pondFault(1, "kind a { field x = -^; }");
    }

    /** "SIGNS { } ( ) ; = == + - * / < . Blanks (32, 10) between.": no other byte can stand. */
    private static void signsAndOtherBytes() {
        for (int b = 0; b < 256; b++) {
            char c = (char) b;
            boolean blank = b == 32 || b == 10;
            if (blank) {
                Checks.pondFine(1, "kind a {" + c + "}" + c);
                Checks.patchFine("drop a" + c + ";" + c);
            } else {
                Checks.faulty("kind a { } " + c, 1, 11);
                Checks.faulty("kind a {" + (c == '}' ? "}" : "") + c + "}", 1, c == '}' ? 9 : 8);
                Checks.faultyPatch("drop a; " + c, 1, 8);
            }
        }
        Checks.pondFine(1, "kind a{field x=-1;act g{if((1<2)==1){x=-x*2/3+4-5;}else{}}}");
    }

    /** "= ==" are two signs; the longer one is taken where both could stand. */
    private static void equalSigns() {
        Checks.pondFine(1, "kind a { act g { x=1==2; } }");
        Checks.pondFault(1, "kind a { act g { x ^== 1; } }");
        Checks.pondFault(1, "kind a { act g { x = 1 ^= = 2; } }");
        Checks.pondFault(1, "kind a { act g { x = 1 ==^= 2; } }");
        Checks.pondFault(1, "kind a { act g { x ^=== 2; } }");
        Checks.pondFault(1, "kind a { field x ^== 2; }");
        Checks.pondFault(1, "kind a { act g { x = 1 ==^");
        Checks.pondFault(1, "kind a { act g { x =^");
        Checks.pondFault(1, "kind a { act g { x ^==");
        Checks.patchFault(1, "check a 1 ==^");
    }

    /** "Blanks (32, 10) between": any number of them, also none; none within. */
    private static void blanksBetween() {
        Checks.pondFine(1, " \n\n  kind \n a{ }\n ");
        Checks.pondFine(1, "kind" + Checks.times(990, " ") + "a{}  ");
        Checks.pondFault(1, "kind a ^b { }");
        Checks.pondFault(1, "^ki nd a { }");
        Checks.pondFault(1, "kind a { field x = 1 ^2; }");
        Checks.pondFault(1, "kind a { field x = 1\n^2; }");
        Checks.pondFault(1, "^kinda { }");
        PondHouse h = new PondHouse();
        Checks.same("a name within a thousand bytes", Checks.n(h, Checks.times(499, " ") + "a" + Checks.times(500, "\n")), 0);
        Checks.tape(h, Checks.times(1000, " "));
        Checks.same("a thousand blanks", h.word(), -1);
        Checks.pondFault(1, Checks.times(1000, " ") + "^");
    }

    /** What end() cuts off is nothing of the text, though it was on the tape. */
    private static void endCutsTokens() {
        cutPond("kind a { } kind", 12, 1, 11);
        cutPond("kind a { } }", 11, 0, -1);
        cutPond("kind a { act g { x = 1 == 2; } }", 24, 1, 23);
        cutPond("kind a { act g { x == 1; } }", 20, 1, 20);
        cutPond("kind a { field x = 123456; } ", 20, 1, 20);
        cutPond("kind a { field x = 12c; } ", 21, 1, 21);
        cutPond("kind a { field x = 1234567; } ", 25, 1, 25);
        cutPond("kind a { field x = -1; } ", 20, 1, 20);
        cutPond("kind a { field abcdefg = 1; } ", 21, 1, 21);
        PondHouse h = new PondHouse();
        Checks.tape(h, "abcdefg");
        Checks.yes("end", h.end(6));
        Checks.same("abcdef", h.word(), 0);
        Checks.tape(h, "abcdef");
        Checks.yes("end", h.end(5));
        Checks.same("abcde", h.word(), 1);
        Checks.tape(h, "abcdef");
        Checks.yes("end", h.end(0));
        Checks.same("nothing", h.word(), -1);
        Checks.tape(h, "a1");
        Checks.yes("end", h.end(1));
        Checks.same("a", h.word(), 2);
    }

    private static void cutPond(String text, int length, int fault, int place) {
        PondHouse h = new PondHouse();
        Checks.tape(h, text);
        Checks.yes("end", h.end(length));
        Checks.same("pond " + text.substring(0, length), h.pond(), fault == 0 ? 1 : -1);
        Checks.same("fault", h.fault(0), fault);
        Checks.same("place", h.fault(1), place);
    }

    /** "pond = KIND {KIND}" */
    private static void oneKindAtLeast() {
        Checks.pondFault(1, "^");
        Checks.pondFault(1, " ^");
        Checks.pondFine(1, "kind a { }");
        Checks.pondFine(2, "kind a { } kind b { }");
        Checks.pondFault(1, "^; kind a { }");
        Checks.pondFault(1, "^drop a;");
        Checks.pondFault(1, "kind a { } ^check a 1;");
    }

    /** "patch = CHANGE {CHANGE}" */
    private static void oneChangeAtLeast() {
        Checks.patchFault(1, "^");
        Checks.patchFault(1, "\n ^");
        Checks.patchFine("kind a { }");
        Checks.patchFine("change a { }");
        Checks.patchFine("drop a;");
        Checks.patchFine("move a;");
        Checks.patchFine("check a 1;");
        Checks.patchFault(1, "^; drop a;");
        Checks.patchFault(1, "drop a;^;");
        Checks.patchFault(1, "^field x = 1;");
        Checks.patchFault(1, "^rename a b;");
        Checks.patchFault(1, "^carry a 1;");
    }

    /** "{MEMBER}", "{EDIT}", "{STATEMENT}" may be nothing. */
    private static void noMembersNoEditsNoStatements() {
        PondHouse h = Checks.house("kind a{}kind b under a{act g{}act f{if 1{}}act e{if 0{}else{}}}");
        Checks.same("a has none", h.kind(0, 3) + h.kind(0, 4) + h.kind(0, 5), 0);
        int b = Checks.create(h, "b");
        Checks.same("g", Checks.act(h, b, "g", 1), 0);
        Checks.same("gave", h.told(0), 0);
        Checks.same("took", h.told(2), 0);
        Checks.same("f", Checks.act(h, b, "f", 1), 0);
        Checks.same("took", h.told(2), 1);
        Checks.same("e", Checks.act(h, b, "e", 1), 0);
        Checks.applies(h, "change a{}");
        Checks.same("generation", h.kind(0, 2), 1);
    }

    /** "E = SUM [(< | ==) SUM]" */
    private static void oneComparison() {
        Checks.pondFine(1, "kind a { act g { give 1; give 1 < 2; give 1 == 2; give (1 < 2) < (3 == 4); } }");
        Checks.pondFault(1, "kind a { act g { give 1 < 2 ^< 3; } }");
        Checks.pondFault(1, "kind a { act g { give 1 < 2 ^== 3; } }");
        Checks.pondFault(1, "kind a { act g { give 1 == 2 ^< 3; } }");
        Checks.pondFault(1, "kind a { act g { give 1 == 2 ^== 3; } }");
        Checks.pondFault(1, "kind a { act g { give (1 < 2 ^< 3); } }");
        Checks.pondFault(1, "kind a { act g { if 1 < 2 ^< 3 { } } }");
        Checks.patchFault(1, "check a 1 < 2 ^< 3;");
        Checks.patchFault(1, "change a { carry x 1 == 2 ^== 3; }");
    }

    /** "NUM = [-] NUMBER": one sign at most, while an E can have more. */
    private static void oneSignOfANumber() {
        PondHouse h = Checks.house("kind a { field x = -5; field y = - 6; static s = -0; act g { give --7; } }");
        int c = Checks.create(h, "a");
        Checks.same("x", Checks.value(h, c, "x"), -5);
        Checks.same("y", Checks.value(h, c, "y"), -6);
        Checks.same("g", Checks.act(h, c, "g", 0), 0);
        Checks.same("gave", h.told(0), 7);
        Checks.pondFault(1, "kind a { field x = -^-5; }");
        Checks.pondFault(1, "kind a { static x = -^-5; }");
        Checks.pondFault(1, "kind a { field x = ^+5; }");
        Checks.pondFault(1, "kind a { field x = ^(5); }");
        Checks.patchFault(1, "change a { field x = -^-5; }");
    }

    /** "1 what can't stand there (the end, too: its place is the text's length)" */
    private static void theEndOfAPond() {
        cutAtEachBlank("kind a under b { field x = - 1 ; link l ; static s = 2 ; act g { x = 1 ; give ( x + - 2 ) * v == last ; fail 1 ; above ;"
                + " do g ; send l g ; rest ; if x { x = 1 ; } else { x = 2 ; } } }", "kind b { } ");
    }

    private static void cutAtEachBlank(String text, String ahead) {
        for (int n = text.indexOf(' '); n >= 0; n = text.indexOf(' ', n + 1)) {
            Checks.faulty(ahead + text.substring(0, n), 1, ahead.length() + n);
            Checks.faulty(ahead + text.substring(0, n) + " \n", 1, ahead.length() + n + 2);
        }
        Checks.same("whole", Checks.pond(new PondHouse(), ahead + text), 2);
    }

    private static void theEndOfAPatch() {
        String[] changes = {
            "kind a under b { field x = - 1 ; link l ; static s = 2 ; act g { rest ; if x { x = 1 ; } else { } } }",
            "change a { field x = 1 ; link l ; static s = 2 ; act g { } drop x ; rename x y ; carry x 1 + ( 2 ) ; }",
            "drop a ;", "move a ;", "move a under b ;", "check a ( x + 1 ) < - 2 ;",
        };
        for (String text : changes) {
            for (int n = text.indexOf(' '); n >= 0; n = text.indexOf(' ', n + 1)) {
                Checks.faultyPatch(text.substring(0, n), 1, n);
                Checks.faultyPatch("drop q; " + text.substring(0, n) + " ", 1, n + 9);
            }
            Checks.patchFine(text);
        }
    }

    /** "FAULTS, the first one by its place" */
    private static void theFirstFaultByItsPlace() {
        Checks.pondFault(1, "kind a { field x = ^; } kind a { }");
        Checks.pondFault(4, "kind a { } kind ^a { field x = ; }");
        Checks.pondFault(4, "kind a under ^b ;");
        Checks.pondFault(4, "kind a { field x = 1; field ^x ; }");
        Checks.pondFault(2, "kind a { act g { if 1 { ^rest } } }");
        Checks.pondFault(1, "kind a { act g { if 1 { ^; rest; } } }");
        Checks.pondFault(3, "kind a { act g { give " + TWELVE + "^( ; } } kind a");
        Checks.pondFault(1, "kind a { act g { give ^; give " + TWELVE + "(");
        Checks.patchFault(1, "drop ^1; change a { act g { if 1 { rest; } } }");
        Checks.patchFault(2, "change a { act g { if 1 { ^rest; } } } drop 1;");
    }

    /** "at one place the least": what can't stand is told, though it is too much as well, or a rest. */
    private static void oneIsLessThanTwoAndThree() {
        Checks.pondFault(1, "kind a { act g { " + Checks.times(60, "rest; ") + "^) } }");
        Checks.pondFault(1, "kind a { act g { " + Checks.times(60, "rest; ") + "^else { } } }");
        Checks.pondFault(1, "kind a { act g { " + Checks.times(60, "rest; ") + "^");
        Checks.pondFault(1, "kind a { act g { give " + TWELVE + "1 ^( ; } }");
        Checks.pondFault(1, "kind a { act g { give " + TWELVE + "1" + TWELVE_CLOSED + "^( ; } }");
        Checks.pondFault(1, "kind a { act g { if 1 { give ^rest; } } }");
        Checks.pondFault(1, "kind a { ^rest; }");
        Checks.patchFault(1, "change a { ^rest; }");
        PondHouse h = Checks.houseOfNames(40);
        Checks.same("a new name where none can stand", Checks.pond(h, "kind naa { zz }"), -1);
        Checks.same("fault", h.fault(0), 1);
        Checks.same("place", h.fault(1), 11);
    }

    private static void twoIsLessThanThree() {
        Checks.pondFault(2, "kind a { act g { " + Checks.times(59, "rest; ") + "if 1 { ^rest; } } }");
        Checks.pondFault(3, "kind a { act g { " + Checks.times(59, "rest; ") + "if 1 { ^above; } } }");
        Checks.pondFault(3, "kind a { act g { " + Checks.times(60, "rest; ") + "^rest; } }");
    }

    private static void threeIsLessThanFourAndFive() {
        faultOfFortyNames("kind naa { } kind ^zz under zz { }", 3);
        faultOfFortyNames("kind naa under ^zz { }", 3);
        StringBuilder twelve = new StringBuilder();
        for (int i = 0; i < 12; i++) {
            twelve.append("kind ").append(Checks.name(i)).append(" { } ");
        }
        faultOfFortyNames(twelve + "kind ^zz { }", 3);
        faultOfFortyNames("kind naa { " + fullOf("field ", " = 1; ", 8) + "link ^zz; }", 3);
        faultOfFortyNames("kind naa { " + fullOf("static ", " = 1; ", 4) + "static ^zz = 1; }", 3);
        faultOfFortyNames("kind naa { " + fullOf("act ", " { } ", 8) + "act ^zz { } }", 3);
    }

    /** So many members of the first names. */
    private static String fullOf(String ahead, String behind, int count) {
        StringBuilder members = new StringBuilder();
        for (int i = 0; i < count; i++) {
            members.append(ahead).append(Checks.name(i)).append(behind);
        }
        return members.toString();
    }

    private static void fourIsLessThanFive() {
        StringBuilder twelve = new StringBuilder();
        for (int i = 0; i < 12; i++) {
            twelve.append("kind ").append(Checks.name(i)).append(" { } ");
        }
        Checks.pondFault(5, twelve + "kind ^a { }");
        Checks.pondFault(5, twelve + "kind ^a under b { }");
        Checks.pondFault(4, twelve + "kind ^naa { }");
        Checks.pondFault(4, twelve + "kind ^nal { }");
        String fields = fullOf("field ", " = 1; ", 8);
        Checks.pondFault(5, "kind a { " + fields + "field ^b = 1; }");
        Checks.pondFault(4, "kind a { " + fields + "field ^naa = 1; }");
        Checks.pondFault(4, "kind a { " + fields + "link ^nah; }");
        Checks.pondFault(4, "kind a { " + fields + "static ^nah = 1; }");
        Checks.pondFault(4, "kind b { static x = 1; } kind a under b { " + fields + "link ^x; }");
        String statics = fullOf("static ", " = 1; ", 4);
        Checks.pondFault(5, "kind a { " + statics + "static ^b = 1; }");
        Checks.pondFault(4, "kind a { " + statics + "static ^nad = 1; }");
        Checks.pondFault(4, "kind a { " + statics + "link ^naa; }");
        Checks.pondFault(4, "kind b { field x = 1; } kind a under b { " + statics + "static ^x = 1; }");
        String acts = fullOf("act ", " { } ", 8);
        Checks.pondFault(5, "kind a { " + acts + "act ^b { } }");
        Checks.pondFault(4, "kind a { " + acts + "act ^nah { } }");
        Checks.pondFault(5, "kind b { act x { } } kind a under b { " + acts + "act ^x { } }");
    }

    /** "2 rest that is not a STATEMENT of an ACT's own BLOCK" */
    private static void restOfTheOwnBlock() {
        Checks.pondFine(1, "kind a { act g { rest; } act f { x = 1; rest; rest; if 1 { } rest; if 1 { } else { } rest; } }");
        Checks.patchFine("change a { act g { rest; } } kind b { act g { rest; if 1 { } rest; } }");
        Checks.pondFault(2, "kind a { act g { if 1 { ^rest; } } }");
        Checks.pondFault(2, "kind a { act g { if 1 { } else { ^rest; } } }");
        Checks.pondFault(2, "kind a { act g { if 1 { x = 1; if 2 { } ^rest; } } }");
        Checks.pondFault(2, "kind a { act g { rest; if 1 { if 2 { } else { ^rest; } } } }");
        Checks.pondFault(2, "kind a { act g { if 1 { } } act f { rest; if 1 { ^rest; } } }");
        Checks.patchFault(2, "kind a { act g { if 1 { ^rest; } } }");
        Checks.patchFault(2, "change a { act g { rest; if 1 { } else { ^rest; } } }");
    }

    private static void restOfOtherPlaces() {
        Checks.pondFault(1, "kind a { act g { x = ^rest; } }");
        Checks.pondFault(1, "kind a { act g { do ^rest; } }");
        Checks.pondFault(1, "kind a { act g { if ^rest { } } }");
        Checks.pondFault(1, "^rest;");
        Checks.patchFault(1, "^rest;");
        Checks.patchFault(1, "check a ^rest;");
    }

    /** "3 too much: the 13th ( .. that is open in a STATEMENT or E .., at it" */
    private static void thirteenBrackets() {
        Checks.pondFine(1, "kind a { act g { give " + TWELVE + "1" + TWELVE_CLOSED + "; } }");
        Checks.pondFault(3, "kind a { act g { give " + TWELVE + "^(1)" + TWELVE_CLOSED + "; } }");
        Checks.pondFault(3, "kind a { act g { x = 1 + " + TWELVE + "2 * ^(1)" + TWELVE_CLOSED + "; } }");
        Checks.pondFault(3, "kind a { act g { fail 1 < " + TWELVE + "^(1)" + TWELVE_CLOSED + "; } }");
        PondHouse h = Checks.house("kind a { act g { give " + TWELVE + "v + 1" + TWELVE_CLOSED + "; } }");
        Checks.create(h, "a");
        Checks.same("g", Checks.act(h, 0, "g", 6), 0);
        Checks.same("gave", h.told(0), 7);
    }

    private static void thirteenMinuses() {
        String twelve = Checks.times(12, "-");
        Checks.pondFine(1, "kind a { act g { give " + twelve + "1; } }");
        Checks.pondFault(3, "kind a { act g { give " + twelve + "^-1; } }");
        Checks.pondFault(3, "kind a { act g { give 1 * " + twelve + "^-1; } }");
        Checks.pondFault(3, "kind a { act g { if " + Checks.times(11, "-") + "^-1 { } } }");
        PondHouse h = Checks.house("kind a { act g { give " + twelve + "v; } }");
        Checks.create(h, "a");
        Checks.same("g", Checks.act(h, 0, "g", 6), 0);
        Checks.same("gave", h.told(0), 6);
    }

    private static void thirteenIfs() {
        String twelve = Checks.times(12, "if v { ");
        Checks.pondFine(1, "kind a { act g { " + twelve + Checks.times(12, "} ") + "} }");
        Checks.pondFault(3, "kind a { act g { " + twelve + "^if v { } " + Checks.times(12, "} ") + "} }");
        Checks.pondFault(3, "kind a { act g { " + twelve + "x = 1; ^if v { } " + Checks.times(12, "} ") + "} }");
        String elses = Checks.times(12, "if v { } else { ");
        Checks.pondFine(1, "kind a { act g { " + elses + Checks.times(12, "} ") + "} }");
        Checks.pondFault(3, "kind a { act g { " + elses + "^if v { } " + Checks.times(12, "} ") + "} }");
        PondHouse h = Checks.house("kind a { act g { " + twelve + "give 8; " + Checks.times(12, "} ") + "} }");
        Checks.create(h, "a");
        Checks.same("g", Checks.act(h, 0, "g", 1), 0);
        Checks.same("gave", h.told(0), 8);
        Checks.same("took", h.told(2), 13);
    }

    private static void thirteenOfAllSorts() {
        String six = Checks.times(6, "if v { ");
        String closed = Checks.times(6, "} ");
        Checks.pondFine(1, "kind a { act g { " + six + "give (-(-(-1))); " + closed + "} }");
        Checks.pondFine(1, "kind a { act g { " + six + "give -(-(-(v))); " + closed + "} }");
        Checks.pondFault(3, "kind a { act g { " + six + "give -(-(-(^-v))); " + closed + "} }");
        Checks.pondFault(3, "kind a { act g { " + six + "give (-(-(-^(1)))); " + closed + "} }");
        Checks.pondFault(3, "kind a { act g { " + six + "if -(-(-^(v))) { } " + closed + "} }");
        Checks.pondFine(1, "kind a { act g { " + six + "if -(-(-v)) { } " + closed + "} }");
    }

    /** What is open around a STATEMENT is open in its E, whichever STATEMENT it is. */
    private static void openAroundEachStatement() {
        openAround("x = ", 9, ";");
        openAround("give ", 9, ";");
        openAround("fail ", 9, ";");
        openAround("if ", 8, " { }");
    }

    private static void openAround(String head, int room, String end) {
        String ahead = "kind a { act g { if v { if v { } else { if v { " + head + Checks.times(room, "(");
        String behind = Checks.times(room, ")") + end + " } } } } }";
        Checks.pondFine(1, ahead + "1" + behind);
        Checks.pondFault(3, ahead + "^(1)" + behind);
        Checks.pondFault(3, ahead + "^-1" + behind);
    }

    /** The 13th that is open counts in the E of a rule, too, each by itself. */
    private static void signsOpenInRules() {
        Checks.patchFine("check a " + TWELVE + "1" + TWELVE_CLOSED + "; check a " + TWELVE + "1" + TWELVE_CLOSED + ";");
        Checks.patchFault(3, "check a " + TWELVE + "^(1)" + TWELVE_CLOSED + ";");
        Checks.patchFine("change a { carry x " + Checks.times(12, "-") + "1; carry y " + TWELVE + "1" + TWELVE_CLOSED + "; }");
        Checks.patchFault(3, "change a { carry x " + Checks.times(12, "-") + "^-1; }");
        Checks.patchFault(3, "change a { carry x " + Checks.times(6, "-(") + "^-1" + Checks.times(6, ")") + "; }");
        Checks.patchFault(3, "change a { act g { give " + TWELVE + "^(1)" + TWELVE_CLOSED + "; } }");
    }

    /** "(each up to the end of what it stands ahead of, or its ) )" */
    private static void signsThatClose() {
        Checks.pondFine(1, "kind a { act g { give " + Checks.times(30, "(1) + ") + "1; } }");
        Checks.pondFine(1, "kind a { act g { give " + Checks.times(30, "-1 * ") + "1; } }");
        Checks.pondFine(1, "kind a { act g { " + Checks.times(30, "if 1 { } else { } ") + "} }");
        Checks.pondFine(1, "kind a { act g { " + Checks.times(30, "give (-1); ") + "} }");
        Checks.pondFine(1, "kind a { act g { give " + Checks.times(11, "(") + "(1) + (2) - -3" + Checks.times(11, ")") + "; } }");
        Checks.pondFault(3, "kind a { act g { give " + Checks.times(11, "(") + "(1) + (2 - ^-3)" + Checks.times(11, ")") + "; } }");
        Checks.pondFine(1, "kind a { act g { give " + Checks.times(12, "-") + "1 + " + Checks.times(12, "-") + "1 * " + TWELVE + "1" + TWELVE_CLOSED + "; } }");
        String eleven = Checks.times(11, "if v { ");
        Checks.pondFine(1, "kind a { act g { " + eleven + "if 1 { } else { give 1; } give -1; if 1 { } " + Checks.times(11, "} ") + "give -1; } }");
        Checks.pondFault(3, "kind a { act g { " + eleven + "if 1 { } else { give ^-1; } " + Checks.times(11, "} ") + "} }");
        Checks.pondFault(3, "kind a { act g { " + eleven + "if ^-1 { } " + Checks.times(11, "} ") + "} }");
    }

    /** "the 61st STATEMENT of an ACT (at its first TOKEN)" */
    private static void sixtyOneStatements() {
        String sixty = Checks.times(60, "x=1; ");
        Checks.pondFine(1, "kind a { act g { " + sixty + "} }");
        for (String statement : "x=1; give_1; fail_1; above; do_g; send_x_g; rest; if_1_{_}".split(" ")) {
            Checks.pondFault(3, "kind a { act g { " + sixty + "^" + statement.replace("_", " ") + " } }");
        }
        PondHouse h = Checks.house("kind a { field x = 0; act g { " + Checks.times(60, "x=x+1; ") + "} }");
        Checks.create(h, "a");
        Checks.same("g", Checks.act(h, 0, "g", 1), 0);
        Checks.same("took", h.told(2), 60);
        Checks.same("x", Checks.value(h, 0, "x"), 60);
    }

    private static void sixtyOneStatementsWithin() {
        Checks.pondFine(1, "kind a { act g { " + Checks.times(20, "if 1 { x=1; } else { x=2; } ") + "} }");
        Checks.pondFault(3, "kind a { act g { " + Checks.times(20, "if 1 { x=1; } else { x=2; } ") + "^above; } }");
        Checks.pondFault(3, "kind a { act g { " + Checks.times(19, "if 1 { x=1; } else { x=2; } ") + "if 1 { x=1; x=2; } else { ^x=3; } } }");
        Checks.pondFault(3, "kind a { act g { " + Checks.times(58, "x=1; ") + "if 1 { x=1; ^x=2; } } }");
        Checks.pondFault(3, "kind a { act g { if 1 { " + Checks.times(59, "x=1; ") + "^x=2; } } }");
    }

    private static void sixtyOneStatementsOfAPatch() {
        Checks.patchFine("change a { act g { " + Checks.times(60, "above; ") + "} }");
        Checks.patchFault(3, "change a { act g { " + Checks.times(60, "above; ") + "^above; } }");
        Checks.patchFault(3, "kind a { act g { " + Checks.times(60, "above; ") + "^above; } }");
    }

    private static void eachActHasSixty() {
        Checks.pondFine(1, "kind a { act g { " + Checks.times(60, "above; ") + "} act f { " + Checks.times(60, "rest; ") + "} }");
        Checks.pondFault(3, "kind a { act g { " + Checks.times(60, "above; ") + "} act f { " + Checks.times(60, "rest; ") + "^rest; } }");
    }

    /** A house has read 40 names, zz is none of them; ^ marks the fault's place in a pond. */
    private static void faultOfFortyNames(String marked, int fault) {
        PondHouse h = Checks.houseOfNames(40);
        Checks.same("pond " + marked, Checks.pond(h, marked.replace("^", "")), -1);
        Checks.same("fault of " + marked, h.fault(0), fault);
        Checks.same("place of " + marked, h.fault(1), marked.indexOf('^'));
    }

    private static void patchOfFortyNames(String marked) {
        PondHouse h = Checks.houseOfNames(40);
        Checks.same("patch " + marked, Checks.patch(h, marked.replace("^", "")), -1);
        Checks.same("fault of " + marked, h.fault(0), 3);
        Checks.same("place of " + marked, h.fault(1), marked.indexOf('^'));
    }

    /** "the 41st NAME of all that were ever read (at it)", wherever a NAME can stand */
    private static void fortyFirstNameOfAPond() {
        faultOfFortyNames("kind ^zz { }", 3);
        faultOfFortyNames("kind naa { } kind nab under ^zz { }", 3);
        faultOfFortyNames("kind naa { field ^zz = 1; }", 3);
        faultOfFortyNames("kind naa { link ^zz; }", 3);
        faultOfFortyNames("kind naa { static ^zz = 1; }", 3);
        faultOfFortyNames("kind naa { act ^zz { } }", 3);
        faultOfFortyNames("kind naa { act nab { ^zz = 1; } }", 3);
        faultOfFortyNames("kind naa { act nab { nac = ^zz; } }", 3);
        faultOfFortyNames("kind naa { act nab { give -(1 + ^zz); } }", 3);
        faultOfFortyNames("kind naa { act nab { fail ^zz; } }", 3);
        faultOfFortyNames("kind naa { act nab { if ^zz { } } }", 3);
        faultOfFortyNames("kind naa { act nab { if 1 { } else { do ^zz; } } }", 3);
        faultOfFortyNames("kind naa { act nab { send ^zz nab; } }", 3);
        faultOfFortyNames("kind naa { act nab { send nac ^zz; } }", 3);
        PondHouse h = Checks.houseOfNames(39);
        Checks.same("the 40th", Checks.pond(h, "kind zz { field naa = 1; act nam { naa = zz; } }"), 1);
        Checks.same("its number", h.kind(0, 0), 39);
    }

    private static void fortyFirstNameOfAPatch() {
        patchOfFortyNames("kind ^zz { }");
        patchOfFortyNames("kind naa under ^zz { }");
        patchOfFortyNames("kind naa { link ^zz; }");
        patchOfFortyNames("change ^zz { }");
        patchOfFortyNames("change naa { field ^zz = 1; }");
        patchOfFortyNames("change naa { act ^zz { } }");
        patchOfFortyNames("change naa { drop ^zz; }");
        patchOfFortyNames("change naa { rename ^zz nab; }");
        patchOfFortyNames("change naa { rename nab ^zz; }");
        patchOfFortyNames("change naa { carry ^zz 1; }");
        patchOfFortyNames("change naa { carry nab ^zz; }");
        patchOfFortyNames("drop ^zz;");
        patchOfFortyNames("move ^zz;");
        patchOfFortyNames("move naa under ^zz;");
        patchOfFortyNames("check ^zz 1;");
        patchOfFortyNames("check naa 1 + ^zz;");
        PondHouse h = Checks.houseOfNames(39);
        Checks.same("the 40th", Checks.patch(h, "move naa under zz; drop zz;"), 0);
        Checks.same("its number", Checks.n(h, "zz"), 39);
    }

    /** "NONE: it is none, or the 41st" */
    private static void fortyFirstWord() {
        PondHouse h = Checks.houseOfNames(39);
        Checks.same("the 40th", Checks.n(h, "zz"), 39);
        Checks.tape(h, "zy");
        Checks.same("the 41st", h.word(), -1);
        Checks.no("the tape is empty", h.end(1));
        Checks.tape(h, "zy");
        Checks.same("the 41st again", h.word(), -1);
        Checks.same("the first", Checks.n(h, "naa"), 0);
        Checks.same("the 40th again", Checks.n(h, "zz"), 39);
    }

    /** Names are of all texts that were ever read; a pond told anew forgets none. */
    private static void fortyNamesOfAllTexts() {
        PondHouse h = Checks.houseOfNames(36);
        Checks.same("a pond's", Checks.pond(h, "kind a { }"), 1);
        Checks.same("a patch's", Checks.patch(h, "drop b;"), 0);
        Checks.same("a pond's with a fault", Checks.pond(h, "kind c {"), -1);
        Checks.same("a patch's with a fault", Checks.patch(h, "drop d"), -1);
        Checks.same("a known one", Checks.pond(h, "kind c { }"), 1);
        Checks.tape(h, "e");
        Checks.same("the 41st", h.word(), -1);
        Checks.same("the 41st", Checks.pond(h, "kind e { }"), -1);
        Checks.same("fault", h.fault(0), 3);
        Checks.same("d", Checks.n(h, "d"), 39);
        Checks.same("a", Checks.n(h, "a"), 36);
    }

    /** "NAMES have numbers 0, 1, .. as they are first read where a NAME can stand" */
    private static void numbersOfNamesByTheirPlaces() {
        PondHouse h = Checks.house("kind a { field b = 1; link c; static d = 2; act e { f = g + h; give i; fail j; do k; send l m; if n { o = 1; } else { p = 1; } } }"
                + " kind q under a { act e { a = b; } act r { } }");
        String names = "abcdefghijklmnopqr";
        for (int i = names.length() - 1; i >= 0; i--) {
            Checks.same("number", Checks.n(h, names.substring(i, i + 1)), i);
        }
        Checks.same("the next", Checks.n(h, "z"), 18);
    }

    private static void numbersOfNamesOfAPatch() {
        PondHouse h = new PondHouse();
        Checks.same("patch", Checks.patch(h, "kind a under b { link c; } change d { static e = 1; drop f; rename g h; carry i j + k; }"
                + " drop l; move m; move n under o; check p q < r;"), 0);
        String names = "abcdefghijklmnopqr";
        for (int i = names.length() - 1; i >= 0; i--) {
            Checks.same("number", Checks.n(h, names.substring(i, i + 1)), i);
        }
    }

    private static void noNumberWhereNoneCanStand() {
        noNumber("zz");
        noNumber("kind a zz");
        noNumber("kind a { zz");
        noNumber("kind a { field b zz");
        noNumber("kind a { field b = zz");
        noNumber("kind a { act b zz");
        noNumber("kind a { act b { give 1 zz");
        noNumber("kind a { act b { rest zz");
        noNumber("kind a { act b { b = (1 zz");
        noNumber("kind a { } zz");
        // behind a fault no name is read
        noNumber("kind a { field b = ; } kind zz { }");
        noNumber("kind a { } kind a { field zz = 1; }");
    }

    private static void noNumber(String text) {
        PondHouse h = new PondHouse();
        Checks.same("a", Checks.n(h, "a"), 0);
        Checks.same("b", Checks.n(h, "b"), 1);
        Checks.same("pond " + text, Checks.pond(h, text), -1);
        Checks.same("the next name behind " + text, Checks.n(h, "y"), 2);
        Checks.same("patch " + text, Checks.patch(h, text.equals("zz") ? "drop a; zz" : "drop a; 1 zz"), -1);
        Checks.same("the next name behind it", Checks.n(h, "x"), 3);
    }

    /** "(also one at which FAULT 4 or 5 is told" */
    private static void aNumberAtFaultsFourAndFive() {
        hasNumber(4, "kind a under ^zz { }", "");
        StringBuilder twelve = new StringBuilder();
        for (int i = 0; i < 12; i++) {
            twelve.append("kind ").append(Checks.name(i)).append(" { } ");
        }
        hasNumber(5, twelve + "kind ^zz { }", "kind");
        hasNumber(5, "kind a { " + fullOf("field ", " = 1; ", 8) + "field ^zz = 1; }", "field");
        hasNumber(5, "kind a { " + fullOf("field ", " = 1; ", 8) + "link ^zz; }", "link");
        hasNumber(5, "kind a { " + fullOf("static ", " = 1; ", 4) + "static ^zz = 1; }", "static");
        hasNumber(5, "kind a { " + fullOf("act ", " { } ", 8) + "act ^zz { } }", "act");
    }

    private static void hasNumber(int fault, String marked, String sort) {
        PondHouse h = new PondHouse();
        Checks.same("pond " + marked, Checks.pond(h, marked.replace("^", "")), -1);
        Checks.same("fault", h.fault(0), fault);
        Checks.same("place", h.fault(1), marked.indexOf('^'));
        int next = Checks.n(h, "other");
        Checks.same("the number of the " + sort, Checks.n(h, "zz"), next - 1);
    }

    /** FAULT 3 at a statement's first token: none of its names is read. */
    private static void noNumberAtFaultThree() {
        PondHouse h = new PondHouse();
        Checks.same("pond", Checks.pond(h, "kind a { act b { " + Checks.times(60, "b=1; ") + "zz = yy; } }"), -1);
        Checks.same("fault", h.fault(0), 3);
        Checks.same("the next", Checks.n(h, "c"), 2);
    }

    /** "and by word() if more stands behind it" */
    private static void aNumberByWordWithMoreBehind() {
        PondHouse h = new PondHouse();
        String[] more = {"a b", "c 1", "d;", "e kind", "f ==", "g" + (char) 200, "h abcdefg", "i I"};
        for (int i = 0; i < more.length; i++) {
            Checks.tape(h, more[i]);
            Checks.same("word of " + more[i], h.word(), -1);
            Checks.no("the tape is empty", h.end(1));
        }
        for (int i = more.length - 1; i >= 0; i--) {
            Checks.same("its number", Checks.n(h, more[i].substring(0, 1)), i);
        }
        Checks.same("what stood behind has none", Checks.n(h, "b"), more.length);
    }

    /** "1 what can't stand there": where a token is missing, that is the next one, also if all else is there. */
    private static void aTokenIsMissingInAPond() {
        String[] kinds = {"^a { }", "kind ^{ }", "kind a ^}", "kind a { ^", "kind a under ^{ }", "kind a ^a { }", "kind a { } ^b { }"};
        for (String marked : kinds) {
            Checks.pondFault(1, marked);
        }
        String[] members = {"^x = 1;", "field ^= 1;", "field x ^1;", "field x ^-1;", "field x = ^;", "field x = -^;", "field x = 1 ^",
            "link ^;", "link x ^", "static ^= 1;", "static x ^1;", "static x ^-1;", "static x = 1 ^", "act ^{ }", "act g ^",
            "act g ^x = 1; }", "act g ^rest; }", "act g { ^"};
        for (String marked : members) {
            Checks.pondFault(1, "kind a { " + marked + (marked.equals("act g { ^") ? "" : "}"));
        }
        String[] statements = {"^= 1;", "x ^1;", "x ^(1);", "x ^-1;", "x = ^;", "x = 1 ^", "give ^;", "give 1 ^", "fail ^;", "fail 1 ^",
            "above ^", "do ^;", "do g ^", "send ^;", "send x ^;", "send x g ^", "rest ^", "if ^{ }", "if 1 ^}", "if 1 ^x = 1; }",
            "if 1 { } ^{ }", "if 1 { } else ^}", "if 1 { } else ^x = 1; }", "x = (1 ^;", "x = 1 ^);", "x = 1 ^2;", "x = 1 + ^;", "x = ^* 1;"};
        for (String marked : statements) {
            Checks.pondFault(1, "kind a { act g { " + marked + "} }");
        }
    }

    private static void aTokenIsMissingInAPatch() {
        String[] changes = {"change ^{ }", "change a ^}", "change a ^", "change a ^drop x; }", "^a { }", "drop ^;", "drop a ^", "drop a ^drop b;",
            "move ^;", "move ^under b;", "move a ^", "move a under ^;", "move a ^b;", "move a under b ^", "check ^1;", "check a ^;", "check a 1 ^",
            "kind ^{ }", "kind a ^}", "kind a ^drop x; }"};
        for (String marked : changes) {
            Checks.patchFault(1, marked);
        }
        String[] edits = {"^x;", "drop ^;", "drop x ^", "rename ^;", "rename x ^;", "rename x y ^", "carry ^1;", "carry x ^;", "carry x 1 ^",
            "field x ^1;", "link x ^", "static x ^-1;", "act g ^"};
        for (String marked : edits) {
            Checks.patchFault(1, "change a { " + marked + "}");
        }
    }
}
