/** Promises 1 to 4: a new object, feed, end, word. */
public final class TapeTest {
    public static void main(String[] args) {
        newObject();
        feedAndEnd();
        bytesInTheirOrder();
        words();
        fortyNames();
        namesInTexts();
        Checks.endWithCode();
    }

    private static void newObject() {
        PondHouse h = new PondHouse();
        Checks.same("NONE", PondHouse.NONE, -1);
        Checks.same("kinds", h.kinds(), 0);
        Checks.same("kind", h.kind(0, 0), -1);
        Checks.no("end(1)", h.end(1));
        Checks.yes("end(0)", h.end(0));
        Checks.no("wake(0)", h.wake(0));
        Checks.same("told", h.told(0), 0);
        Checks.same("fault(0)", h.fault(0), 0);
        Checks.same("fault(1)", h.fault(1), -1);
        Checks.same("refusal(0)", h.refusal(0), 0);
        Checks.same("refusal(1)", h.refusal(1), -1);
        Checks.same("refusal(2)", h.refusal(2), -1);
        Checks.same("outcome", h.outcome(0), -1);
        Checks.same("ran", h.ran(0, 0), -1);
        Checks.same("under", h.under(0, 0), -1);
        Checks.same("applied", h.applied(0), -1);
        Checks.no("back", h.back());
        Checks.same("sum", h.sum(0), 0);
        Checks.same("first name", Checks.n(h, "zz"), 0);
    }

    private static void feedAndEnd() {
        PondHouse h = new PondHouse();
        for (int i = 1; i <= 50; i++) {
            Checks.same("feed", h.feed(i, -i, 0, Integer.MIN_VALUE, Integer.MAX_VALUE), 20 * i);
        }
        Checks.same("feed of a full tape", h.feed(0, 0, 0, 0, 0), -1);
        Checks.no("end(1001)", h.end(1001));
        Checks.no("end(-1)", h.end(-1));
        Checks.no("end(min)", h.end(Integer.MIN_VALUE));
        Checks.no("end(max)", h.end(Integer.MAX_VALUE));
        Checks.yes("end(1000)", h.end(1000));
        Checks.yes("end(981)", h.end(981));
        Checks.same("feed behind 981", h.feed(0, 0, 0, 0, 0), -1);
        Checks.yes("end(981) again", h.end(981));
        Checks.yes("end(980)", h.end(980));
        Checks.no("end(981) behind it", h.end(981));
        Checks.same("feed behind 980", h.feed(0, 0, 0, 0, 0), 1000);
        Checks.yes("end(0)", h.end(0));
        Checks.same("feed behind 0", h.feed(0, 0, 0, 0, 0), 20);
    }

    private static void bytesInTheirOrder() {
        PondHouse h = new PondHouse();
        // "kind" "abcd" " {} " and the byte 255: what can't stand is told with its place
        h.feed(0x6b696e64, 0x20616263, 0x64207b7d, 0x20202020, 0x202020ff);
        Checks.same("pond", h.pond(), -1);
        Checks.same("fault", h.fault(0), 1);
        Checks.same("place", h.fault(1), 19);
        Checks.same("the name's number", Checks.n(h, "abcd"), 0);
        Checks.yes("the tape was emptied by word", h.end(0));
        Checks.no("it has nothing", h.end(1));
    }

    private static void words() {
        PondHouse h = new PondHouse();
        Checks.same("a", Checks.n(h, "a"), 0);
        Checks.same("b", Checks.n(h, " \n b\n"), 1);
        Checks.same("a again", Checks.n(h, "a  "), 0);
        none(h, "");
        none(h, "   ");
        none(h, "12");
        none(h, "A");
        none(h, "{");
        none(h, "abcdefg");
        none(h, "\tc");
        none(h, "v");
        String words = "kind under field link static act give fail above do send rest if else v last"
                + " change drop move rename carry check";
        for (String word : words.split(" ")) {
            none(h, word);
        }
        Checks.same("abcdef", Checks.n(h, "abcdef"), 2);
        Checks.same("kinds", Checks.n(h, "kinds"), 3);
        // one name and more behind it is no name, but the name has its number
        none(h, "d d");
        none(h, "e 1");
        none(h, "f?");
        Checks.same("f", Checks.n(h, "f"), 6);
        Checks.same("e", Checks.n(h, "e"), 5);
        Checks.same("d", Checks.n(h, "d"), 4);
        none(h, "1 g");
        Checks.same("z", Checks.n(h, "z"), 7);
    }

    private static void none(PondHouse h, String text) {
        Checks.tape(h, text);
        Checks.same("word of '" + text + "'", h.word(), -1);
        Checks.no("tape behind '" + text + "'", h.end(1));
    }

    private static void fortyNames() {
        PondHouse h = new PondHouse();
        for (int i = 0; i < 40; i++) {
            Checks.same("name", Checks.n(h, "" + (char) ('a' + i / 20) + (char) ('a' + i % 20)), i);
        }
        none(h, "zz");
        Checks.same("the 40th", Checks.n(h, "bt"), 39);
        Checks.same("pond with the 41st", Checks.pond(h, "kind aa { field zz = 1; }"), -1);
        Checks.same("fault", h.fault(0), 3);
        Checks.same("place", h.fault(1), 16);
        Checks.same("41st kind that is too much, not under what is missing", Checks.pond(h, "kind aa under zz { }"), -1);
        Checks.same("fault", h.fault(0), 3);
        Checks.same("pond of known names", Checks.pond(h, "kind aa { field bt = 1; }"), 1);
        Checks.same("patch with the 41st", Checks.patch(h, "check aa aa + zz;"), -1);
        Checks.same("fault", h.fault(0), 3);
        Checks.same("place", h.fault(1), 14);
        Checks.same("statement with the 41st", Checks.pond(h, "kind aa { act ab { zz = 1; } }"), -1);
        Checks.same("fault", h.fault(0), 3);
        Checks.same("place", h.fault(1), 19);
        Checks.same("send with the 41st", Checks.pond(h, "kind aa { act ab { send ab zz; } }"), -1);
        Checks.same("fault", h.fault(0), 3);
        Checks.same("place", h.fault(1), 27);
    }

    private static void namesInTexts() {
        PondHouse h = new PondHouse();
        // names get numbers in texts with a fault behind them, and at faults 4 and 5
        Checks.same("pond", Checks.pond(h, "kind a { field b = 1; act c { d = e + f; send g h; } } )"), -1);
        Checks.same("fault", h.fault(0), 1);
        Checks.same("h", Checks.n(h, "h"), 7);
        Checks.same("d", Checks.n(h, "d"), 3);
        Checks.same("under what is not there", Checks.pond(h, "kind a under i { }"), -1);
        Checks.same("i", Checks.n(h, "i"), 8);
        Checks.same("where none can stand", Checks.pond(h, "kind a { j k"), -1);
        Checks.same("fault", h.fault(1), 9);
        Checks.same("k", Checks.n(h, "k"), 9);
        Checks.same("patch", Checks.patch(h, "change l { rename m o; carry p q; drop r; } move s under t; check u w; v"), -1);
        Checks.same("w", Checks.n(h, "w"), 19);
        Checks.same("l", Checks.n(h, "l"), 10);
        Checks.same("a ninth field", Checks.pond(h, "kind a { field b = 1; field c = 1; field d = 1; field e = 1;"
                + " field f = 1; field g = 1; field h = 1; field i = 1; field new = 1; }"), -1);
        Checks.same("fault", h.fault(0), 5);
        Checks.same("y", Checks.n(h, "y"), 21);
        Checks.same("new", Checks.n(h, "new"), 20);
    }
}
