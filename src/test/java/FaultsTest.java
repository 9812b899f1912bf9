/** Promises 5 to 7, the texts: grammar, faults and their places. */
public final class FaultsTest {
    public static void main(String[] args) {
        ends();
        tokens();
        lettersBehindNumbers();
        signsBehindNumbers();
        members();
        statements();
        expressions();
        patches();
        rests();
        openSigns();
        sixtyStatements();
        faultsOfPonds();
        ordersAtOnePlace();
        whatFaultTells();
        aSeventhPatch();
        roomForPatches();
        Checks.endWithCode();
    }

    private static void ends() {
        Checks.faulty("", 1, 0);
        Checks.faulty("   ", 1, 3);
        Checks.faulty("kind", 1, 4);
        Checks.faulty("kind a", 1, 6);
        Checks.faulty("kind a \n ", 1, 9);
        Checks.faulty("kind a {", 1, 8);
        Checks.faulty("kind a { field x = 5", 1, 20);
        Checks.faulty("kind a { act g { if 1 { }", 1, 25);
        Checks.faultyPatch("", 1, 0);
        Checks.faultyPatch("move a", 1, 6);
        Checks.faultyPatch("move a under", 1, 12);
        Checks.faultyPatch("check a", 1, 7);
    }

    private static void tokens() {
        Checks.faulty("kind abcdefg { }", 1, 5);
        Checks.faulty("kind aB { }", 1, 6);
        Checks.faulty("kind v { }", 1, 5);
        Checks.faulty("kinda { }", 1, 0);
        Checks.faulty("kind\ta { }", 1, 4);
        Checks.faulty("kind a { field x = 1234567; }", 1, 19);
        Checks.faulty("kind a { field x = 12c; }", 1, 19);
        Checks.faulty("kind a { field x = 1.; }", 1, 20);
        Checks.faulty("kind a { field x == 1; }", 1, 17);
        Checks.faulty("kind a { } " + (char) 233, 1, 11);
        Checks.faulty("kind a { act g { give 1 = = 1; } }", 1, 24);
        PondHouse h = Checks.house("kind\na{field x=000042;act g{give 999999;}}");
        int c = Checks.create(h, "a");
        Checks.same("x", Checks.value(h, c, "x"), 42);
        Checks.act(h, c, "g", 0);
        Checks.same("six digits", h.told(0), 999999);
        // a number may stand right behind a name
        Checks.yes("check a5", Checks.patch(h, "check a5;") >= 0);
    }

    /** Wherever a number can stand, what has a letter right behind it is none: the fault is at its digits. */
    private static void lettersBehindNumbers() {
        for (int i = 0; i < 26; i++) {
            letterBehindNumbers((char) ('a' + i));
            letterBehindNumbers((char) ('A' + i));
        }
        Checks.faulty("kind a { act g { x = 1 < 2Z; } }", 1, 25);
        Checks.faulty("kind a { act g { x = (3Q); } }", 1, 22);
        Checks.faulty("kind a { act g { x = 1 * -00M; } }", 1, 26);
        Checks.faulty("kind a { act g { fail 7F; } }", 1, 22);
        Checks.faulty("kind a { act g { give 1 B; } }", 1, 24);
        Checks.faulty("kind a { act g { give 1 b; } }", 1, 24);
        PondHouse h = new PondHouse();
        Checks.same("patch", Checks.patch(h, "change a { drop b; } check c 1D;"), -1);
        Checks.same("c has a number", Checks.n(h, "c"), 2);
        Checks.same("what stands behind the fault has none", Checks.n(h, "d"), 3);
        Checks.tape(h, "1E");
        Checks.same("no word", h.word(), -1);
        Checks.tape(h, "e1E");
        Checks.same("a name and more", h.word(), -1);
        Checks.same("e has a number", Checks.n(h, "e"), 4);
    }

    private static void letterBehindNumbers(char letter) {
        Checks.faulty("kind a { field x = 1" + letter + "; }", 1, 19);
        Checks.faulty("kind a { field x = - 123456" + letter + "; }", 1, 21);
        Checks.faulty("kind a { static x = 0" + letter + "x; }", 1, 20);
        Checks.faulty("kind a { field x = 1234567" + letter + "; }", 1, 19);
        Checks.faulty("kind a { act g { give 12" + letter + " 3; } }", 1, 22);
        Checks.faulty("kind a { act g { if 12" + letter + "{ } } }", 1, 20);
        Checks.faultyPatch("change a { field x = 1" + letter + "; }", 1, 21);
        Checks.faultyPatch("change a { carry x 1" + letter + "; }", 1, 19);
        Checks.faultyPatch("check a 1" + letter, 1, 8);
    }

    /** What is no letter, the neighbours of the letters among it, lets the number stand. */
    private static void signsBehindNumbers() {
        char[] others = {'@', '[', '`', '|', '_', '.', '"', (char) 0, (char) 127, (char) 128, (char) 255};
        for (char other : others) {
            Checks.faulty("kind a { field x = 12" + other + "; }", 1, 21);
            Checks.faultyPatch("check a 12" + other + ";", 1, 10);
        }
        Checks.same("signs right behind", Checks.pond(new PondHouse(),
                "kind a{field x=1;act g{if 1{x=(2)*3-4/5<6;}else{x=7==8+9;}give 1\n;}}"), 1);
    }

    private static void members() {
        Checks.faulty("field x = 1;", 1, 0);
        Checks.faulty("kind a { } field", 1, 11);
        Checks.faulty("kind a { x }", 1, 9);
        Checks.faulty("kind a { field x; }", 1, 16);
        Checks.faulty("kind a { field x }", 1, 17);
        Checks.faulty("kind a { field x = }", 1, 19);
        Checks.faulty("kind a { link x }", 1, 16);
        Checks.faulty("kind a { act }", 1, 13);
        Checks.faulty("kind a", 1, 6);
        Checks.faulty("kind a kind b { }", 1, 7);
        Checks.faulty("kind a { field x = y; }", 1, 19);
        Checks.faulty("kind a { field x = - - 1; }", 1, 21);
        Checks.faulty("kind a { field x = 1 + 1; }", 1, 21);
        Checks.faulty("kind a { link x = 1; }", 1, 16);
        Checks.faulty("kind a { static x = 1 }", 1, 22);
        Checks.faulty("kind a { act g; }", 1, 14);
        Checks.faulty("kind a { drop x; }", 1, 9);
        Checks.faulty("kind a { } change a { }", 1, 11);
        Checks.faulty("kind a under { }", 1, 13);
        Checks.faulty("kind a { } }", 1, 11);
    }

    private static void statements() {
        Checks.faulty("kind a { act g { 1; } }", 1, 17);
        Checks.faulty("kind a { act g { x 1; } }", 1, 19);
        Checks.faulty("kind a { act g { x = ; } }", 1, 21);
        Checks.faulty("kind a { act g { x = 1 } }", 1, 23);
        Checks.faulty("kind a { act g { give; } }", 1, 21);
        Checks.faulty("kind a { act g { fail; } }", 1, 21);
        Checks.faulty("kind a { act g { above 1; } }", 1, 23);
        Checks.faulty("kind a { act g { do; } }", 1, 19);
        Checks.faulty("kind a { act g { do g } }", 1, 22);
        Checks.faulty("kind a { act g { send x; } }", 1, 23);
        Checks.faulty("kind a { act g { send 1 g; } }", 1, 22);
        Checks.faulty("kind a { act g { rest 1; } }", 1, 22);
        Checks.faulty("kind a { act g { if { } } }", 1, 20);
        Checks.faulty("kind a { act g { if 1 give 1; } }", 1, 22);
        Checks.faulty("kind a { act g { else { } } }", 1, 17);
        Checks.faulty("kind a { act g { if 1 { } else if 1 { } } }", 1, 31);
        Checks.faulty("kind a { act g { if 1 { } else { } else { } } }", 1, 35);
        Checks.faulty("kind a { act g { carry x 1; } }", 1, 17);
        Checks.faulty("kind a { act g { v = 1; } }", 1, 17);
        Checks.same("empty blocks", Checks.pond(new PondHouse(), "kind a { act g { } act f { if 1 { } else { } } }"), 1);
    }

    private static void expressions() {
        Checks.faulty("kind a { act g { give 1 < 2 < 3; } }", 1, 28);
        Checks.faulty("kind a { act g { give 1 == 2 < 3; } }", 1, 29);
        Checks.faulty("kind a { act g { give (1; } }", 1, 24);
        Checks.faulty("kind a { act g { give 1); } }", 1, 23);
        Checks.faulty("kind a { act g { give + 1; } }", 1, 22);
        Checks.faulty("kind a { act g { give 1 2; } }", 1, 24);
        Checks.faulty("kind a { act g { give 1 * / 2; } }", 1, 26);
        Checks.faulty("kind a { act g { give give; } }", 1, 22);
        Checks.same("all of it", Checks.pond(new PondHouse(),
                "kind a { act g { give -(x + v) * last / 2 - -3 == (1 < 2); } }"), 1);
    }

    private static void patches() {
        Checks.faultyPatch("kind a { } )", 1, 11);
        Checks.faultyPatch("kind a { drop x; }", 1, 9);
        Checks.faultyPatch("change a;", 1, 8);
        Checks.faultyPatch("change a", 1, 8);
        Checks.faultyPatch("change", 1, 6);
        Checks.faultyPatch("change a { rename x }", 1, 20);
        Checks.faultyPatch("change a { drop }", 1, 16);
        Checks.faultyPatch("change a { carry x }", 1, 19);
        Checks.faultyPatch("change a { drop x }", 1, 18);
        Checks.faultyPatch("change a { field x }", 1, 19);
        Checks.faultyPatch("change a { move b; }", 1, 11);
        Checks.faultyPatch("change a { rename x; }", 1, 19);
        Checks.faultyPatch("change a { rename x y }", 1, 22);
        Checks.faultyPatch("change a { carry x; }", 1, 18);
        Checks.faultyPatch("change a { carry x 1 }", 1, 21);
        Checks.faultyPatch("change a { drop field; }", 1, 16);
        Checks.faultyPatch("drop a", 1, 6);
        Checks.faultyPatch("drop a under b;", 1, 7);
        Checks.faultyPatch("move a b;", 1, 7);
        Checks.faultyPatch("check a;", 1, 7);
        Checks.faultyPatch("check a 1", 1, 9);
        Checks.faultyPatch("under a;", 1, 0);
        Checks.faultyPatch("drop a; drop", 1, 12);
        Checks.faultyPatch("change a { act g { if 1 { rest; } } }", 2, 26);
        PondHouse h = new PondHouse();
        Checks.same("patch", Checks.patch(h, "kind a under b { field x = -1; link l; static s = 2; act g { rest; } }"
                + " change c { field x = 1; drop y; rename a b; carry q v - last * 2; } drop d; move e; move f under g; check h 1;"), 0);
        // members told twice and kinds that are missing are no faults of a patch
        Checks.same("patch", Checks.patch(h, "kind a under a { field x = 1; field x = 1; } kind a { }"), 1);
    }

    private static void rests() {
        Checks.faulty("kind a { act g { if 1 { } else { rest; } } }", 2, 33);
        Checks.faulty("kind a { act g { rest; if 1 { if 1 { rest } } } }", 2, 37);
        Checks.same("own block", Checks.pond(new PondHouse(), "kind a { act g { rest; if 1 { } rest; } }"), 1);
    }

    private static void openSigns() {
        String twelve = "((((((((((((";
        String closed = "))))))))))))";
        Checks.same("12 (", Checks.pond(new PondHouse(), "kind a { act g { give " + twelve + "1" + closed + " + " + twelve + "1" + closed + "; } }"), 1);
        Checks.faulty("kind a { act g { give " + twelve + "(1)" + closed + "; } }", 3, 34);
        Checks.faulty("kind a { act g { give " + twelve + "-1" + closed + "; } }", 3, 34);
        Checks.faulty("kind a { act g { give ------------(1); } }", 3, 34);
        Checks.same("12 - and sums", Checks.pond(new PondHouse(), "kind a { act g { give ------------1 - ------------1 - 1 - 1; } }"), 1);
        String ifs = "if 1 { if 1 { if 1 { if 1 { if 1 { if 1 { ";
        Checks.same("12 ifs", Checks.pond(new PondHouse(), "kind a { act g { " + ifs + ifs + " give 1; }}}}}} }}}}}} } }"), 1);
        Checks.faulty("kind a { act g { " + ifs + ifs + "if 1 { } }}}}}} }}}}}} } }", 3, 17 + 84);
        Checks.faulty("kind a { act g { " + ifs + ifs + "give -1; }}}}}} }}}}}} } }", 3, 17 + 84 + 5);
        Checks.faulty("kind a { act g { " + ifs + " if ------1 { } }}}}}} } }", 3, 17 + 42 + 4 + 5);
        Checks.same("6 ifs, an if, 5 -", Checks.pond(new PondHouse(), "kind a { act g { " + ifs + " if -----1 { } else { give -----1; } }}}}}} } }"), 1);
        Checks.faulty("kind a { act g { " + ifs + " if 1 { } else { give ------1; } }}}}}} } }", 3, 17 + 42 + 22 + 5);
        Checks.faultyPatch("check a " + twelve + "(", 3, 20);
        Checks.faultyPatch("change a { carry x " + twelve + "-", 3, 31);
        Checks.same("the - of a NUM is none", Checks.pond(new PondHouse(), "kind a { field x = -1; }"), 1);
        Checks.faulty("kind a { act g { give " + twelve + ");", 1, 34);
    }

    private static void sixtyStatements() {
        StringBuilder sixty = new StringBuilder("kind a { act g { ");
        for (int i = 0; i < 59; i++) {
            sixty.append("above; ");
        }
        int place = sixty.length();
        Checks.same("60", Checks.pond(new PondHouse(), sixty + "above; } act f { above; } }"), 1);
        Checks.faulty(sixty + "above; above; } }", 3, place + 7);
        Checks.faulty(sixty + "if 1 { above; } } }", 3, place + 7);
        Checks.faulty(sixty + "above; 1", 1, place + 7);
        Checks.faulty(sixty + "if 1 { rest; } } }", 2, place + 7);
        PondHouse h = new PondHouse();
        Checks.same("61st", Checks.pond(h, sixty + "above; name = 1; } }"), -1);
        Checks.same("its name is not read", Checks.n(h, "other"), 2);
    }

    private static void faultsOfPonds() {
        Checks.faulty("kind a { } kind a { }", 4, 16);
        Checks.faulty("kind a under b { }", 4, 13);
        Checks.faulty("kind a under a { }", 4, 13);
        Checks.faulty("kind a under b { } kind b { }", 4, 13);
        Checks.faulty("kind a { field x = 1; field x = 2; }", 4, 28);
        Checks.faulty("kind a { link x; static x = 2; }", 4, 24);
        Checks.faulty("kind a { static x = 2; link x; }", 4, 28);
        Checks.faulty("kind a { act x { } act x { } }", 4, 23);
        Checks.faulty("kind a { field x = 1; } kind b under a { } kind c under b { static x = 1; }", 4, 67);
        Checks.faulty("kind a { static x = 1; } kind b under a { link x; }", 4, 47);
        Checks.same("an act has names of its own sort", Checks.pond(new PondHouse(),
                "kind a { field x = 1; act x { } } kind b under a { act x { } } kind c { field x = 1; }"), 3);
        StringBuilder twelve = new StringBuilder();
        for (int i = 0; i < 12; i++) {
            twelve.append("kind ").append((char) ('a' + i)).append(" { } ");
        }
        Checks.same("12 kinds", Checks.pond(new PondHouse(), twelve.toString()), 12);
        Checks.faulty(twelve + "kind m { }", 5, twelve.length() + 5);
        Checks.faulty(twelve + "kind a { }", 4, twelve.length() + 5);
        String eight = "field a = 1; field b = 1; field c = 1; field d = 1; link e; link f; link g; link h; ";
        Checks.same("8 fields", Checks.pond(new PondHouse(), "kind a { " + eight + "} kind b under a { field i = 1; }"), 2);
        Checks.faulty("kind a { " + eight + "link i; }", 5, 9 + eight.length() + 5);
        Checks.faulty("kind a { " + eight + "field a = 1; }", 4, 9 + eight.length() + 6);
        String four = "static p = 1; static q = 1; static r = 1; static s = 1; ";
        Checks.same("4 statics", Checks.pond(new PondHouse(), "kind a { " + eight + four + "}"), 1);
        Checks.faulty("kind a { " + four + "static t = 1; }", 5, 9 + four.length() + 7);
        Checks.faulty("kind a { " + four + "static q = 1; }", 4, 9 + four.length() + 7);
        String acts = "act a { } act b { } act c { } act d { } act e { } act f { } act g { } act h { } ";
        Checks.same("8 acts", Checks.pond(new PondHouse(), "kind a { " + acts + "}"), 1);
        Checks.faulty("kind a { " + acts + "act i { } }", 5, 9 + acts.length() + 4);
        Checks.faulty("kind a { " + acts + "act h { } }", 4, 9 + acts.length() + 4);
    }

    private static void ordersAtOnePlace() {
        // the first by its place: what is wrong further on is not told
        Checks.faulty("kind a { field x = 1; field x ; }", 4, 28);
        Checks.faulty("kind a { field x = ; field x = 1; }", 1, 19);
        StringBuilder names = new StringBuilder("kind a { act g { ");
        PondHouse h = new PondHouse();
        for (int i = 0; i < 40; i++) {
            Checks.n(h, "n" + (char) ('a' + i % 20) + (i < 20 ? "" : "x"));
        }
        Checks.same("a new kind name as the 41st, under it nothing", Checks.pond(h, "kind na { } kind new { }"), -1);
        Checks.same("fault", h.fault(0), 3);
        Checks.same("place", h.fault(1), 17);
        Checks.same("fewer names", names.length(), 17);
    }

    private static void whatFaultTells() {
        PondHouse h = new PondHouse();
        Checks.same("pond", Checks.pond(h, "kind a { field x = 1; }"), 1);
        Checks.create(h, "a");
        Checks.same("pond with a fault", Checks.pond(h, "kind b { } kind c {"), -1);
        Checks.same("fault", h.fault(0), 1);
        Checks.same("place", h.fault(1), 19);
        Checks.same("fault(2)", h.fault(2), -1);
        Checks.same("fault(-1)", h.fault(-1), -1);
        Checks.no("the tape is empty", h.end(1));
        Checks.same("all else stays", h.kinds(), 1);
        Checks.same("the creature, too", h.kindOf(0), Checks.n(h, "a"));
        Checks.same("patch", Checks.patch(h, "drop a;"), 0);
        Checks.same("fault behind a good patch", h.fault(0), 0);
        Checks.same("its place", h.fault(1), -1);
        Checks.no("the tape is empty", h.end(1));
        Checks.same("patch with a fault", Checks.patch(h, "drop 1;"), -1);
        Checks.same("fault", h.fault(0), 1);
        Checks.same("place", h.fault(1), 5);
        Checks.same("the next patch", Checks.patch(h, "drop a;"), 1);
        for (int k = 2; k < 6; k++) {
            Checks.same("patch", Checks.patch(h, "drop a;"), k);
        }
        Checks.same("a pond lets patches go", Checks.pond(h, "kind a { }"), 1);
        Checks.same("fault", h.fault(0), 0);
        Checks.same("patch", Checks.patch(h, "drop a;"), 0);
    }

    /** A house that keeps six patches; its names are a and b. */
    private static PondHouse fullHouse() {
        PondHouse h = Checks.house("kind a { field b = 1; }");
        for (int k = 0; k < 6; k++) {
            Checks.same("patch", Checks.patch(h, "drop a;"), k);
        }
        return h;
    }

    /** With six kept a text is not read: no fault, no names, an empty tape, whatever stands in it. */
    private static void aSeventhPatch() {
        String[] texts = {
            "drop a;", "drop q;", "kind q { field r = 1; act s { t = u; } }", "", "drop", "drop ?;", "drop q; drop 1;",
            "kind q { act r { if 1 { rest; } } }", "kind q { act r { x = ((((((((((((((1)))))))))))))); } }", "\u0000\u00ff",
        };
        for (String text : texts) {
            PondHouse h = fullHouse();
            Checks.same("pond with a fault", Checks.pond(h, "kind 1"), -1);
            Checks.same("fault", h.fault(0), 1);
            Checks.same("its place", h.fault(1), 5);
            Checks.same("a seventh " + text, Checks.patch(h, text), -1);
            Checks.same("fault behind " + text, h.fault(0), 0);
            Checks.same("place behind " + text, h.fault(1), -1);
            Checks.no("the tape is empty behind " + text, h.end(1));
            Checks.no("no seventh is kept", h.apply(6));
            Checks.same("nothing of a seventh", h.applied(6), -1);
            Checks.same("a name only in a seventh has a number by word()", Checks.n(h, "r"), 2);
            Checks.same("and the next one", Checks.n(h, "q"), 3);
        }
    }

    /** Taking a patch back, giving it up or refusing it makes no room; a pond does. */
    private static void roomForPatches() {
        PondHouse h = fullHouse();
        Checks.same("applied", Checks.make(h, 0), 2);
        Checks.same("a seventh", Checks.patch(h, "drop z;"), -1);
        Checks.same("refused", Checks.make(h, 1), 4);
        Checks.same("a seventh", Checks.patch(h, "drop z;"), -1);
        Checks.yes("back", h.back());
        Checks.same("a seventh", Checks.patch(h, "drop z;"), -1);
        Checks.same("a pond with a fault", Checks.pond(h, "kind a { } ;"), -1);
        Checks.same("a seventh", Checks.patch(h, "drop 1;"), -1);
        Checks.same("fault", h.fault(0), 0);
        Checks.same("no names by them", Checks.n(h, "w"), 2);
        Checks.same("a pond lets patches go", Checks.pond(h, "kind a { }"), 1);
        Checks.same("patch with a fault", Checks.patch(h, "drop y; drop 1;"), -1);
        Checks.same("fault", h.fault(0), 1);
        Checks.same("place", h.fault(1), 13);
        Checks.same("it is read", Checks.n(h, "x"), 4);
        Checks.same("patch", Checks.patch(h, "drop a;"), 0);
    }
}
