import java.nio.charset.StandardCharsets;

/** What every test needs: a house fed with texts, calls by names, and the count of wrong answers. */
final class Checks {
    private static int wrong = 0;

    private Checks() {
    }

    static void same(String call, long got, long due) {
        if (got != due) {
            wrong++;
            System.out.println(call + " answered " + got + ", due is " + due);
        }
    }

    static void yes(String call, boolean got) {
        same(call, got ? 1 : 0, 1);
    }

    static void no(String call, boolean got) {
        same(call, got ? 1 : 0, 0);
    }

    static void endWithCode() {
        if (wrong > 0) {
            System.out.println(wrong + " wrong answers");
            System.exit(1);
        }
    }

    /** Puts the text on the tape, which must be empty. */
    static void tape(PondHouse house, String text) {
        byte[] bytes = text.getBytes(StandardCharsets.ISO_8859_1);
        int[] five = new int[5];
        for (int from = 0; from < bytes.length; from += 20) {
            for (int i = 0; i < 5; i++) {
                five[i] = 0;
                for (int j = 0; j < 4; j++) {
                    int at = from + 4 * i + j;
                    five[i] = five[i] << 8 | (at < bytes.length ? bytes[at] & 255 : 32);
                }
            }
            same("feed", house.feed(five[0], five[1], five[2], five[3], five[4]), from + 20);
        }
        yes("end", house.end(bytes.length));
    }

    static int pond(PondHouse house, String text) {
        tape(house, text);
        return house.pond();
    }

    static int patch(PondHouse house, String text) {
        tape(house, text);
        return house.patch();
    }

    /** The number of a name; it must be one. */
    static int n(PondHouse house, String name) {
        tape(house, name);
        int number = house.word();
        yes("word of " + name, number >= 0);
        return number;
    }

    /** A house with this pond. */
    static PondHouse house(String text) {
        PondHouse house = new PondHouse();
        yes("pond " + text, pond(house, text) > 0);
        return house;
    }

    static int create(PondHouse house, String kind) {
        int c = house.create(n(house, kind));
        yes("create " + kind, c >= 0);
        return c;
    }

    static int value(PondHouse house, int c, String name) {
        return house.value(c, n(house, name));
    }

    static boolean has(PondHouse house, int c, String name) {
        return house.has(c, n(house, name));
    }

    static int act(PondHouse house, int c, String name, int v) {
        return house.act(c, n(house, name), v);
    }

    /** The text is a pond with this fault at this place. */
    static void faulty(String text, int fault, int place) {
        PondHouse house = new PondHouse();
        same("pond " + text, pond(house, text), -1);
        same("fault(0) of " + text, house.fault(0), fault);
        same("fault(1) of " + text, house.fault(1), place);
    }

    /** The text is a patch with this fault at this place. */
    static void faultyPatch(String text, int fault, int place) {
        PondHouse house = new PondHouse();
        same("patch " + text, patch(house, text), -1);
        same("fault(0) of " + text, house.fault(0), fault);
        same("fault(1) of " + text, house.fault(1), place);
    }

    /** The text is a pond with this fault at the place that ^ marks. */
    static void pondFault(int fault, String marked) {
        faulty(marked.replace("^", ""), fault, marked.indexOf('^'));
    }

    /** The text is a patch with this fault at the place that ^ marks. */
    static void patchFault(int fault, String marked) {
        faultyPatch(marked.replace("^", ""), fault, marked.indexOf('^'));
    }

    /** The text is a pond of so many kinds. */
    static void pondFine(int kinds, String text) {
        same("pond " + text, pond(new PondHouse(), text), kinds);
    }

    /** The text is a patch. */
    static void patchFine(String text) {
        same("patch " + text, patch(new PondHouse(), text), 0);
    }

    /** The part so many times, for texts that are full. */
    static String times(int count, String part) {
        return part.repeat(count);
    }

    /** The i-th of 40 names, naa, nab, .. nbt, for texts that need many. */
    static String name(int i) {
        return "n" + (char) ('a' + i / 20) + (char) ('a' + i % 20);
    }

    /** A house that has read so many names. */
    static PondHouse houseOfNames(int count) {
        PondHouse house = new PondHouse();
        for (int i = 0; i < count; i++) {
            same("name", n(house, name(i)), i);
        }
        return house;
    }

    /** An act g with this body gives this. */
    static void gives(String body, int v, int due) {
        PondHouse house = house("kind a { field x = 7; static s = 9; link l; act g " + body + " }");
        int c = create(house, "a");
        same("outcome of " + body, act(house, c, "g", v), 0);
        same("what gave " + body, house.told(0), due);
    }

    /** Calls for the patch and lets a beat go by; answers what became of it. */
    static int make(PondHouse house, int k) {
        yes("apply", house.apply(k));
        house.beat();
        return house.applied(k);
    }

    static void applies(PondHouse house, String text) {
        same("applied " + text, make(house, patch(house, text)), 2);
    }

    static void refuses(PondHouse house, String text, int why, int change, int creature) {
        int k = patch(house, text);
        yes("patch " + text, k >= 0);
        same("refused " + text, make(house, k), 4);
        same("refusal(0) of " + text, house.refusal(0), why);
        same("refusal(1) of " + text, house.refusal(1), change);
        same("refusal(2) of " + text, house.refusal(2), creature);
    }
}
