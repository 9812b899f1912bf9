import java.util.ArrayList;
import java.util.Arrays;

/**
 * A living pond, patched while it runs: kinds of creatures are told by a text, creatures do their
 * acts beat by beat, patches change the kinds at a quiet point and can be taken back.
 */
public final class PondHouse {
    public static final int NONE = -1;

    private static final int MOST_BYTES = 1000;
    private static final int BYTES_OF_FEED = 20;
    private static final int MOST_NAMES = 40;
    private static final int MOST_LETTERS = 6;
    private static final int MOST_DIGITS = 6;
    private static final int MOST_KINDS = 12;
    private static final int MOST_FIELDS = 8;
    private static final int MOST_STATICS = 4;
    private static final int MOST_ACTS = 8;
    private static final int MOST_CREATURES = 40;
    private static final int MOST_PATCHES = 6;
    private static final int MOST_LONG_ACTS = 10;
    private static final int MOST_BEATS = 1000;
    private static final int MOST_RAN = 50;
    private static final int PARTS_OF_RAN = 4;
    private static final int BEATS_TO_WAIT = 8;
    private static final int MOST_OPEN_SIGNS = 12;
    private static final int MOST_STATEMENTS = 60;
    private static final int MOST_OPEN_ACTS = 20;
    private static final int FUEL = 500;
    // A text of 1000 bytes makes fewer than 2000 numbers of code.
    private static final int MOST_CODE = 4000;
    // 12 open signs, each with three numbers that wait, stay below this.
    private static final int MOST_WAITING_NUMBERS = 64;
    // 501 statements of fewer than 1900 instructions each stay below this.
    private static final int MOST_INSTRUCTIONS = 1000000;

    // The sorts of tokens: signs are their own characters, words follow WORDS in its order. The
    // instructions of code and the steps of a patch have the same numbers.
    private static final String SIGNS = "{}();=+-*/<";
    private static final String WORDS = "kind under field link static act give fail above do send rest if else v last change drop move rename carry check ";
    private static final int WORD_COUNT = 22;
    private static final int FIRST_WORD = 200;
    private static final int NAME = 1;
    private static final int NUMBER = 2;
    private static final int NO_TOKEN = 3;
    private static final int TEXT_END = 4;
    private static final int KIND = 200;
    private static final int UNDER = 201;
    private static final int FIELD = 202;
    private static final int LINK = 203;
    private static final int STATIC = 204;
    private static final int ACT = 205;
    private static final int GIVE = 206;
    private static final int FAIL = 207;
    private static final int ABOVE = 208;
    private static final int DO = 209;
    private static final int SEND = 210;
    private static final int REST = 211;
    private static final int IF = 212;
    private static final int ELSE = 213;
    private static final int V = 214;
    private static final int LAST = 215;
    private static final int CHANGE = 216;
    private static final int DROP = 217;
    private static final int MOVE = 218;
    private static final int RENAME = 219;
    private static final int CARRY = 220;
    private static final int CHECK = 221;
    private static final int SAME = 250;
    private static final int DROP_MEMBER = 251;
    private static final int NEGATE = 252;
    private static final int STATEMENT = 253;
    private static final int ACT_END = 0;

    private static final int CANT_STAND = 1;
    private static final int REST_INSIDE = 2;
    private static final int TOO_MUCH = 3;
    private static final int NOT_RIGHT = 4;
    private static final int TOO_MANY = 5;

    private static final int DONE = 0;
    private static final int FAILED = 1;
    private static final int NO_ACT = 2;
    private static final int NO_CREATURE = 3;
    private static final int SPENT = 4;
    private static final int RESTS = 5;

    private static final int UNKNOWN_NAME = 1001;
    private static final int DIVIDED_BY_ZERO = 1002;
    private static final int NOBODY_THERE = 1003;
    private static final int UNKNOWN_ACT = 1004;
    private static final int TOO_DEEP = 1005;

    private static final int NOT_CALLED_FOR = 0;
    private static final int WAITS = 1;
    private static final int APPLIED = 2;
    private static final int GIVEN_UP = 3;
    private static final int REFUSED = 4;
    private static final int TAKEN_BACK = 5;

    private static final int NO_KIND = 1;
    private static final int KIND_THERE = 2;
    private static final int MEMBER_THERE = 3;
    private static final int NO_MEMBER = 4;
    private static final int UNDER_ITSELF = 5;
    private static final int KIND_BELOW = 6;
    private static final int TOO_FULL = 7;
    private static final int MEMBER_ABOVE = 8;
    private static final int RULE_FAILS = 9;
    private static final int CHECK_FAILS = 10;

    private final Tokens tokens = new Tokens();
    private final Reader reader = new Reader(tokens);
    private final Creature[] creatures = new Creature[MOST_CREATURES];
    private final int[] outcomes = new int[MOST_CREATURES];
    private final LongAct[] longActs = new LongAct[MOST_LONG_ACTS];
    private final Runner runner = new Runner(creatures);
    private final Patcher patcher = new Patcher(creatures, runner);
    private Pond pond = new Pond();
    private int made;
    private int beats;
    private int woken = NONE;
    private int gaveLast;
    private int failedLast;
    private int statementsLast;

    public PondHouse() {
        for (int c = 0; c < MOST_CREATURES; c++) {
            creatures[c] = new Creature(c);
        }
        for (int l = 0; l < MOST_LONG_ACTS; l++) {
            longActs[l] = new LongAct();
        }
    }

    public int feed(int a, int b, int c, int d, int e) {
        if (tokens.length + BYTES_OF_FEED > MOST_BYTES) {
            return NONE;
        }
        tokens.addBytes(a);
        tokens.addBytes(b);
        tokens.addBytes(c);
        tokens.addBytes(d);
        tokens.addBytes(e);
        return tokens.length;
    }

    public boolean end(int n) {
        if (n < 0 || n > tokens.length) {
            return false;
        }
        tokens.length = n;
        return true;
    }

    public int word() {
        return reader.readOneName();
    }

    public int pond() {
        Pond told = new Pond();
        if (!reader.readText(told)) {
            return NONE;
        }
        told.settle(null, 0);
        pond = told;
        for (int c = 0; c < MOST_CREATURES; c++) {
            creatures[c].living = false;
        }
        for (int l = 0; l < MOST_LONG_ACTS; l++) {
            longActs[l].known = false;
            longActs[l].underWay = false;
        }
        made = 0;
        woken = NONE;
        patcher.forgetAll();
        return pond.count;
    }

    public int patch() {
        if (patcher.isFull()) {
            reader.passOver();
            return NONE;
        }
        if (!reader.readText(null)) {
            return NONE;
        }
        return patcher.keep(reader.steps);
    }

    public int fault(int what) {
        switch (what) {
            case 0:
                return reader.faultSort;
            case 1:
                return reader.faultPlace;
            default:
                return NONE;
        }
    }

    public int kinds() {
        return pond.count;
    }

    public int kind(int i, int what) {
        if (i < 0 || i >= pond.count) {
            return NONE;
        }
        Kind kind = pond.kinds[i];
        switch (what) {
            case 0:
                return kind.name;
            case 1:
                return kind.above == null ? NONE : kind.above.name;
            case 2:
                return kind.generation;
            case 3:
                return kind.fields;
            case 4:
                return kind.statics;
            case 5:
                return kind.acts;
            default:
                return NONE;
        }
    }

    public int create(int name) {
        Kind kind = pond.find(name);
        if (kind == null || made >= MOST_CREATURES) {
            return NONE;
        }
        creatures[made].comeToLife(kind);
        outcomes[made] = NO_CREATURE;
        made++;
        return made - 1;
    }

    public int kindOf(int c) {
        return lives(c) ? creatures[c].kind.name : NONE;
    }

    public int generation(int c) {
        return lives(c) ? creatures[c].kind.generation : NONE;
    }

    public boolean has(int c, int name) {
        return lives(c) && creatures[c].kind.hasField(name);
    }

    public int value(int c, int name) {
        if (!lives(c) || !isName(name)) {
            return 0;
        }
        Creature creature = creatures[c];
        if (creature.kind.hasField(name)) {
            return creature.values[name];
        }
        return creature.isLost[name] ? creature.lost[name] : 0;
    }

    public boolean put(int c, int name, int v) {
        if (!lives(c) || !creatures[c].kind.hasField(name)) {
            return false;
        }
        creatures[c].values[name] = v;
        return true;
    }

    public int fixed(int kind, int name) {
        Kind named = pond.find(kind);
        Kind holder = named == null ? null : named.holderOfStatic(name);
        return holder == null ? 0 : holder.staticValue[named.staticPlace[name]];
    }

    public int act(int c, int name, int v) {
        int result = NO_CREATURE;
        gaveLast = 0;
        failedLast = 0;
        statementsLast = 0;
        if (lives(c)) {
            result = runner.runAct(creatures[c], name, v);
            gaveLast = runner.gave;
            failedLast = runner.failedWith;
            statementsLast = runner.statements;
        }
        return result;
    }

    public int told(int what) {
        switch (what) {
            case 0:
                return gaveLast;
            case 1:
                return failedLast;
            case 2:
                return statementsLast;
            default:
                return NONE;
        }
    }

    public boolean wake(int name) {
        if (name != NONE && (name < 0 || name >= reader.nameCount)) {
            return false;
        }
        woken = name;
        return true;
    }

    public int beat() {
        if (beats >= MOST_BEATS) {
            return NONE;
        }
        beats++;
        runner.ranCount = 0;
        runner.notes = true;
        for (int c = 0; c < MOST_CREATURES; c++) {
            outcomes[c] = lives(c) ? runner.runAct(creatures[c], woken, beats) : NO_CREATURE;
        }
        boolean forbidden = false;
        for (int l = 0; l < MOST_LONG_ACTS; l++) {
            LongAct act = longActs[l];
            if (act.underWay) {
                act.takeResult(runner.goOn(act.frame), runner.gave);
            }
            forbidden |= act.underWay && act.forbids;
        }
        runner.notes = false;
        pond = patcher.quietPoint(pond, forbidden);
        endLongActsOfEnded();
        return beats;
    }

    public int outcome(int c) {
        return beats == 0 || c < 0 || c >= made ? NONE : outcomes[c];
    }

    public int ran(int i, int what) {
        if (i < 0 || i >= runner.ranCount || what < 0 || what >= PARTS_OF_RAN) {
            return NONE;
        }
        return runner.ranParts[i * PARTS_OF_RAN + what];
    }

    public int begin(int c, int name, int v) {
        Kind holder = lives(c) ? creatures[c].kind.holderOfAct(name) : null;
        if (holder == null) {
            return NONE;
        }
        for (int l = 0; l < MOST_LONG_ACTS; l++) {
            if (!longActs[l].underWay) {
                longActs[l].startFor(creatures[c], holder, name, v);
                return l;
            }
        }
        return NONE;
    }

    public int under(int l, int what) {
        if (l < 0 || l >= MOST_LONG_ACTS || !longActs[l].known) {
            return NONE;
        }
        return longActs[l].tell(what);
    }

    public boolean forbid(int l, boolean on) {
        if (l < 0 || l >= MOST_LONG_ACTS || !longActs[l].underWay) {
            return false;
        }
        longActs[l].forbids = on;
        return true;
    }

    public boolean apply(int k) {
        return patcher.callFor(k);
    }

    public int applied(int k) {
        return k < 0 || k >= patcher.kept ? NONE : patcher.patches[k].state;
    }

    public int refusal(int what) {
        switch (what) {
            case 0:
                return patcher.why;
            case 1:
                return patcher.whichChange;
            case 2:
                return patcher.whichCreature;
            default:
                return NONE;
        }
    }

    public boolean back() {
        if (!patcher.canTakeBack()) {
            return false;
        }
        pond = patcher.takeBack(pond);
        endLongActsOfEnded();
        return true;
    }

    public long sum(int name) {
        long total = 0;
        for (int c = 0; c < made; c++) {
            if (lives(c) && creatures[c].kind.hasField(name)) {
                total += creatures[c].values[name];
            }
        }
        return total;
    }

    private boolean lives(int c) {
        return c >= 0 && c < MOST_CREATURES && creatures[c].living;
    }

    private static boolean isName(int name) {
        return name >= 0 && name < MOST_NAMES;
    }

    private void endLongActsOfEnded() {
        for (int l = 0; l < MOST_LONG_ACTS; l++) {
            LongAct act = longActs[l];
            if (act.underWay && !act.frame.creature.living) {
                act.takeResult(NO_CREATURE, 0);
            }
        }
    }

    private static int placeIn(int[] row, int count, int name) {
        for (int i = 0; i < count && i < row.length; i++) {
            if (row[i] == name) {
                return i;
            }
        }
        return NONE;
    }

    private static void closeGap(int[] row, int count, int gap) {
        System.arraycopy(row, gap + 1, row, gap, count - 1 - gap);
    }

    /** The tape, and the tokens into which its text is cut. */
    private static final class Tokens {
        private final int[] tape = new int[MOST_BYTES];
        private int length;
        private final int[] sorts = new int[MOST_BYTES + 1];
        private final int[] places = new int[MOST_BYTES + 1];
        // Of a number what it counts, of a name or word its letters as one number.
        private final int[] values = new int[MOST_BYTES + 1];
        private int count;
        private final int[] wordKeys = new int[WORD_COUNT];

        private Tokens() {
            int word = 0;
            int key = 0;
            for (int i = 0; i < WORDS.length() && word < WORD_COUNT; i++) {
                char c = WORDS.charAt(i);
                if (c == ' ') {
                    wordKeys[word] = key;
                    word++;
                    key = 0;
                } else {
                    key = withLetter(key, c);
                }
            }
        }

        private void addBytes(int number) {
            for (int shift = 24; shift >= 0 && length < MOST_BYTES; shift -= 8) {
                tape[length] = (number >>> shift) & 255;
                length++;
            }
        }

        /** Cuts the whole tape, which is empty then. */
        private void cut() {
            count = 0;
            for (int at = 0; at < length; ) {
                at += Math.max(1, cutOne(at));
            }
            addToken(TEXT_END, length, 0);
            length = 0;
        }

        private int cutOne(int at) {
            int c = tape[at];
            if (c == ' ' || c == '\n') {
                return 1;
            }
            if (isSmallLetter(c)) {
                return cutName(at);
            }
            if (isDigit(c)) {
                return cutNumber(at);
            }
            if (c == '=' && at + 1 < length && tape[at + 1] == '=') {
                addToken(SAME, at, 0);
                return 2;
            }
            addToken(SIGNS.indexOf((char) c) >= 0 ? c : NO_TOKEN, at, 0);
            return 1;
        }

        private int cutName(int at) {
            int end = at;
            int key = 0;
            for (; end < length && isSmallLetter(tape[end]); end++) {
                if (end - at < MOST_LETTERS) {
                    key = withLetter(key, tape[end]);
                }
            }
            int word = placeIn(wordKeys, WORD_COUNT, key);
            if (end - at > MOST_LETTERS) {
                addToken(NO_TOKEN, at, 0);
            } else if (word != NONE) {
                addToken(FIRST_WORD + word, at, key);
            } else {
                addToken(NAME, at, key);
            }
            return end - at;
        }

        private int cutNumber(int at) {
            int end = at;
            int number = 0;
            for (; end < length && isDigit(tape[end]); end++) {
                if (end - at < MOST_DIGITS) {
                    number = number * 10 + tape[end] - '0';
                }
            }
            boolean letterBehind = end < length && isAnyLetter(tape[end]);
            boolean fine = end - at <= MOST_DIGITS && !letterBehind;
            addToken(fine ? NUMBER : NO_TOKEN, at, number);
            return end - at;
        }

        private void addToken(int sort, int place, int value) {
            if (count < sorts.length) {
                sorts[count] = sort;
                places[count] = place;
                values[count] = value;
                count++;
            }
        }

        private static int withLetter(int key, int letter) {
            return key * 27 + letter - 'a' + 1;
        }

        private static boolean isSmallLetter(int c) {
            return c >= 'a' && c <= 'z';
        }

        /** Names have small letters alone, but behind a number none of either sort may stand. */
        private static boolean isAnyLetter(int c) {
            return isSmallLetter(c) || c >= 'A' && c <= 'Z';
        }

        private static boolean isDigit(int c) {
            return c >= '0' && c <= '9';
        }
    }

    /** One thing that a text of kinds asks for: a member, a change of a kind, a rule, a check. */
    private static final class Step {
        private final int sort;
        private final int change;
        private final int kind;
        // Of the member; of steps of a whole kind NONE.
        private final int name;
        // The new name, the kind above, or the first value.
        private final int other;
        private final int[] code;

        private Step(int sort, int change, int kind, int name, int other, int[] code) {
            this.sort = sort;
            this.change = change;
            this.kind = kind;
            this.name = name;
            this.other = other;
            this.code = code;
        }
    }

    /** Reads texts: gives numbers to names, finds the first fault, writes code and steps. */
    private static final class Reader {
        private final Tokens tokens;
        private final int[] nameKeys = new int[MOST_NAMES];
        private int nameCount;
        private int next;
        private int faultSort;
        private int faultPlace = NONE;
        private final int[] code = new int[MOST_CODE];
        private int codeSize;
        private int statements;
        private int change;
        private int firstValue;
        // What a text of a pond builds as it is read; null in a text of a patch.
        private Pond building;
        private ArrayList<Step> steps = new ArrayList<Step>();

        private Reader(Tokens tokens) {
            this.tokens = tokens;
        }

        private int readOneName() {
            tokens.cut();
            next = 0;
            if (sortNow() != NAME) {
                return NONE;
            }
            int number = numberOf(tokens.values[next]);
            next++;
            return sortNow() == TEXT_END ? number : NONE;
        }

        /** Empties the tape unread: its names get no numbers, and it has no fault. */
        private void passOver() {
            tokens.length = 0;
            forgetFault();
        }

        private void forgetFault() {
            faultSort = 0;
            faultPlace = NONE;
        }

        /** Reads the tape as a pond that is built, or, where none is given, as a patch. */
        private boolean readText(Pond toBuild) {
            tokens.cut();
            building = toBuild;
            steps = new ArrayList<Step>();
            next = 0;
            forgetFault();
            boolean fine = true;
            // A text has at least one change.
            for (change = 0; fine && change < MOST_BYTES; change++) {
                int sort = sortNow();
                boolean ofPatch = building == null;
                if (sort == KIND) {
                    fine = readKind();
                } else if (ofPatch && sort == CHANGE) {
                    fine = readEdits();
                } else if (ofPatch && (sort == DROP || sort == MOVE || sort == CHECK)) {
                    fine = readShortChange(sort);
                } else if (change > 0 && sort == TEXT_END) {
                    return true;
                } else {
                    fine = stopAt(CANT_STAND, next);
                }
            }
            return fine;
        }

        private boolean readKind() {
            next++;
            int place = next;
            int name = readName();
            if (name == NONE) {
                return false;
            }
            if (building != null && building.find(name) != null) {
                return stopAt(NOT_RIGHT, place);
            }
            if (building != null && building.count >= MOST_KINDS) {
                return stopAt(TOO_MANY, place);
            }
            int above = NONE;
            if (sortNow() == UNDER) {
                next++;
                place = next;
                above = readName();
                if (above == NONE) {
                    return false;
                }
                if (building != null && building.find(above) == null) {
                    return stopAt(NOT_RIGHT, place);
                }
            }
            Step step = new Step(KIND, change, name, NONE, above, null);
            Kind kind = null;
            if (building == null) {
                steps.add(step);
            } else {
                building.takeKind(step);
                kind = building.find(name);
            }
            if (!pass('{')) {
                return false;
            }
            for (int i = 0; i < MOST_BYTES && sortNow() != '}'; i++) {
                if (!readMember(name, kind)) {
                    return false;
                }
            }
            return pass('}');
        }

        /** The member goes to the kind that is built, or, where none is given, to the steps. */
        private boolean readMember(int kindName, Kind kind) {
            int sort = sortNow();
            if (sort != FIELD && sort != LINK && sort != STATIC && sort != ACT) {
                return stopAt(CANT_STAND, next);
            }
            next++;
            int place = next;
            int name = readName();
            if (name == NONE) {
                return false;
            }
            int fault = kind == null ? 0 : kind.faultOfNew(sort, name);
            if (fault != 0) {
                return stopAt(fault, place);
            }
            int[] body = null;
            firstValue = NONE;
            if (sort != ACT && !readRestOfValue(sort)) {
                return false;
            }
            if (sort == ACT) {
                codeSize = 0;
                statements = 0;
                if (!readBlock(0)) {
                    return false;
                }
                write(ACT_END);
                body = Arrays.copyOf(code, codeSize);
            }
            Step step = new Step(sort, change, kindName, name, firstValue, body);
            if (kind == null) {
                steps.add(step);
            } else {
                kind.takeMember(step);
            }
            return true;
        }

        /** What stands behind the name of a field, link or static. */
        private boolean readRestOfValue(int sort) {
            if (sort == LINK) {
                return pass(';');
            }
            if (!pass('=')) {
                return false;
            }
            boolean below = sortNow() == '-';
            if (below) {
                next++;
            }
            if (sortNow() != NUMBER) {
                return stopAt(CANT_STAND, next);
            }
            firstValue = below ? -tokens.values[next] : tokens.values[next];
            next++;
            return pass(';');
        }

        private boolean readEdits() {
            next++;
            int kindName = readName();
            if (kindName == NONE || !pass('{')) {
                return false;
            }
            steps.add(new Step(CHANGE, change, kindName, NONE, NONE, null));
            for (int i = 0; i < MOST_BYTES && sortNow() != '}'; i++) {
                int sort = sortNow();
                boolean own = sort == DROP || sort == RENAME || sort == CARRY;
                if (!(own ? readEdit(kindName, sort) : readMember(kindName, null))) {
                    return false;
                }
            }
            return pass('}');
        }

        private boolean readEdit(int kindName, int sort) {
            next++;
            int name = readName();
            if (name == NONE) {
                return false;
            }
            int other = NONE;
            int[] rule = null;
            if (sort == RENAME) {
                other = readName();
                if (other == NONE) {
                    return false;
                }
            }
            if (sort == CARRY) {
                rule = readRule();
                if (rule == null) {
                    return false;
                }
            }
            steps.add(new Step(sort == DROP ? DROP_MEMBER : sort, change, kindName, name, other, rule));
            return pass(';');
        }

        /** drop, move and check of a whole kind. */
        private boolean readShortChange(int sort) {
            next++;
            int kindName = readName();
            if (kindName == NONE) {
                return false;
            }
            int above = NONE;
            int[] rule = null;
            if (sort == MOVE && sortNow() == UNDER) {
                next++;
                above = readName();
                if (above == NONE) {
                    return false;
                }
            }
            if (sort == CHECK) {
                rule = readRule();
                if (rule == null) {
                    return false;
                }
            }
            steps.add(new Step(sort, change, kindName, NONE, above, rule));
            return pass(';');
        }

        /** The code of an E that stands alone, or null. */
        private int[] readRule() {
            codeSize = 0;
            if (!readE(0, 0)) {
                return null;
            }
            write(GIVE);
            return Arrays.copyOf(code, codeSize);
        }

        private boolean readBlock(int open) {
            if (!pass('{')) {
                return false;
            }
            for (int i = 0; i <= MOST_STATEMENTS && sortNow() != '}'; i++) {
                if (!readStatement(open)) {
                    return false;
                }
            }
            return pass('}');
        }

        /** A statement stands in its act's own block where no if is open. */
        private boolean readStatement(int open) {
            int sort = sortNow();
            if (sort != NAME && (sort < GIVE || sort > IF)) {
                return stopAt(CANT_STAND, next);
            }
            if (sort == REST && open > 0) {
                return stopAt(REST_INSIDE, next);
            }
            if (statements >= MOST_STATEMENTS) {
                return stopAt(TOO_MUCH, next);
            }
            statements++;
            write(STATEMENT);
            switch (sort) {
                case IF:
                    return readIf(open);
                case NAME:
                    int name = readName();
                    if (name == NONE || !pass('=') || !readE(0, open)) {
                        return false;
                    }
                    write('=');
                    write(name);
                    return pass(';');
                case GIVE:
                case FAIL:
                    next++;
                    if (!readE(0, open)) {
                        return false;
                    }
                    write(sort);
                    return pass(';');
                default:
                    return readPlain(sort) && pass(';');
            }
        }

        /** A statement without an E: above, do, send or rest. */
        private boolean readPlain(int sort) {
            next++;
            if (sort == SEND) {
                int link = readName();
                if (link == NONE) {
                    return false;
                }
                write(NAME);
                write(link);
            }
            write(sort);
            if (sort == DO || sort == SEND) {
                int act = readName();
                write(act);
                return act != NONE;
            }
            return true;
        }

        private boolean readIf(int open) {
            if (open >= MOST_OPEN_SIGNS) {
                return stopAt(TOO_MUCH, next);
            }
            next++;
            if (!readE(0, open + 1)) {
                return false;
            }
            write(IF);
            int toElse = codeSize;
            write(0);
            if (!readBlock(open + 1)) {
                return false;
            }
            if (sortNow() != ELSE) {
                writeAt(toElse, codeSize);
                return true;
            }
            next++;
            write(ELSE);
            int toEnd = codeSize;
            write(0);
            writeAt(toElse, codeSize);
            if (!readBlock(open + 1)) {
                return false;
            }
            writeAt(toEnd, codeSize);
            return true;
        }

        /** Level 0 compares, 1 adds, 2 multiplies, 3 is a U. */
        private boolean readE(int level, int open) {
            if (level >= 3) {
                return readU(open);
            }
            if (!readE(level + 1, open)) {
                return false;
            }
            int most = level == 0 ? 1 : MOST_BYTES;
            for (int i = 0; i < most && joinsAt(level, sortNow()); i++) {
                int sign = sortNow();
                next++;
                if (!readE(level + 1, open)) {
                    return false;
                }
                write(sign);
            }
            return true;
        }

        private static boolean joinsAt(int level, int sort) {
            switch (level) {
                case 0:
                    return sort == '<' || sort == SAME;
                case 1:
                    return sort == '+' || sort == '-';
                default:
                    return sort == '*' || sort == '/';
            }
        }

        private boolean readU(int open) {
            int sort = sortNow();
            switch (sort) {
                case NUMBER:
                    write(NUMBER);
                    write(tokens.values[next]);
                    next++;
                    return true;
                case NAME:
                    int name = readName();
                    write(NAME);
                    write(name);
                    return name != NONE;
                case V:
                case LAST:
                    write(sort);
                    next++;
                    return true;
                case '(':
                case '-':
                    return readOpening(sort, open);
                default:
                    return stopAt(CANT_STAND, next);
            }
        }

        private boolean readOpening(int sign, int open) {
            if (open >= MOST_OPEN_SIGNS) {
                return stopAt(TOO_MUCH, next);
            }
            next++;
            if (sign == '(') {
                return readE(0, open + 1) && pass(')');
            }
            if (!readE(3, open + 1)) {
                return false;
            }
            write(NEGATE);
            return true;
        }

        /** The number of the name that must stand here; NONE, with the fault, if none can. */
        private int readName() {
            if (sortNow() != NAME) {
                stopAt(CANT_STAND, next);
                return NONE;
            }
            int number = numberOf(tokens.values[next]);
            if (number == NONE) {
                stopAt(TOO_MUCH, next);
                return NONE;
            }
            next++;
            return number;
        }

        private int numberOf(int key) {
            for (int i = 0; i < nameCount; i++) {
                if (nameKeys[i] == key) {
                    return i;
                }
            }
            if (nameCount >= MOST_NAMES) {
                return NONE;
            }
            nameKeys[nameCount] = key;
            nameCount++;
            return nameCount - 1;
        }

        private int sortNow() {
            return next >= 0 && next < tokens.count ? tokens.sorts[next] : TEXT_END;
        }

        private boolean pass(int sort) {
            if (sortNow() != sort) {
                return stopAt(CANT_STAND, next);
            }
            next++;
            return true;
        }

        private boolean stopAt(int fault, int token) {
            faultSort = fault;
            faultPlace = token >= 0 && token < tokens.count ? tokens.places[token] : NONE;
            return false;
        }

        private void write(int part) {
            if (codeSize < code.length) {
                code[codeSize] = part;
                codeSize++;
            }
        }

        private void writeAt(int place, int part) {
            if (place >= 0 && place < codeSize) {
                code[place] = part;
            }
        }
    }

    /** A kind in one generation, with its own members. */
    private static final class Kind {
        private final int name;
        private Kind above;
        private int generation;
        private boolean touched;
        private int fields;
        private final int[] fieldName = new int[MOST_FIELDS];
        private final int[] fieldFirst = new int[MOST_FIELDS];
        // The name that the field had ahead of the patch; NONE for one told anew.
        private final int[] fieldFrom = new int[MOST_FIELDS];
        private int statics;
        private final int[] staticName = new int[MOST_STATICS];
        private final int[] staticValue = new int[MOST_STATICS];
        private int acts;
        private final int[] actName = new int[MOST_ACTS];
        private final int[][] actCode = new int[MOST_ACTS][];
        // What each name means, the members of the kinds above included.
        private final boolean[] isField = new boolean[MOST_NAMES];
        private final Kind[] staticHolder = new Kind[MOST_NAMES];
        private final int[] staticPlace = new int[MOST_NAMES];
        private final Kind[] actHolder = new Kind[MOST_NAMES];
        private final int[] actPlace = new int[MOST_NAMES];

        private Kind(int name) {
            this.name = name;
        }

        /** A copy for a patch to change; what is above is put in by the copied pond. */
        private Kind copyOfOwn() {
            Kind copy = new Kind(name);
            copy.generation = generation;
            copy.fields = fields;
            System.arraycopy(fieldName, 0, copy.fieldName, 0, fields);
            System.arraycopy(fieldFirst, 0, copy.fieldFirst, 0, fields);
            System.arraycopy(fieldName, 0, copy.fieldFrom, 0, fields);
            copy.statics = statics;
            System.arraycopy(staticName, 0, copy.staticName, 0, statics);
            System.arraycopy(staticValue, 0, copy.staticValue, 0, statics);
            copy.acts = acts;
            System.arraycopy(actName, 0, copy.actName, 0, acts);
            System.arraycopy(actCode, 0, copy.actCode, 0, acts);
            return copy;
        }

        private int fieldAt(int wanted) {
            return placeIn(fieldName, fields, wanted);
        }

        private int staticAt(int wanted) {
            return placeIn(staticName, statics, wanted);
        }

        private boolean hasOwnValue(int wanted) {
            return placeIn(fieldName, fields, wanted) != NONE || placeIn(staticName, statics, wanted) != NONE;
        }

        private Kind holderOfField(int wanted) {
            for (Kind k = this; k != null; k = k.above) {
                if (placeIn(k.fieldName, k.fields, wanted) != NONE) {
                    return k;
                }
            }
            return null;
        }

        private boolean isOrIsUnder(int kindName) {
            for (Kind k = this; k != null; k = k.above) {
                if (k.name == kindName) {
                    return true;
                }
            }
            return false;
        }

        private boolean hasField(int wanted) {
            return wanted >= 0 && wanted < MOST_NAMES && isField[wanted];
        }

        private Kind holderOfStatic(int wanted) {
            return wanted >= 0 && wanted < MOST_NAMES ? staticHolder[wanted] : null;
        }

        private Kind holderOfAct(int wanted) {
            return wanted >= 0 && wanted < MOST_NAMES ? actHolder[wanted] : null;
        }

        /** Works out what the names mean, once all members stand; the nearest kind counts. */
        private void settleNames() {
            for (Kind k = this; k != null; k = k.above) {
                for (int i = 0; i < k.fields; i++) {
                    isField[k.fieldName[i]] = true;
                }
                for (int i = 0; i < k.statics; i++) {
                    staticHolder[k.staticName[i]] = k;
                    staticPlace[k.staticName[i]] = i;
                }
                for (int i = 0; i < k.acts; i++) {
                    if (actHolder[k.actName[i]] == null) {
                        actHolder[k.actName[i]] = k;
                        actPlace[k.actName[i]] = i;
                    }
                }
            }
        }

        /** The fault of a pond in which this kind is told such a member, or 0. */
        private int faultOfNew(int sort, int member) {
            if (sort == ACT) {
                if (placeIn(actName, acts, member) != NONE) {
                    return NOT_RIGHT;
                }
                return acts >= MOST_ACTS ? TOO_MANY : 0;
            }
            for (Kind k = this; k != null; k = k.above) {
                if (k.hasOwnValue(member)) {
                    return NOT_RIGHT;
                }
            }
            boolean full = sort == STATIC ? statics >= MOST_STATICS : fields >= MOST_FIELDS;
            return full ? TOO_MANY : 0;
        }

        /** Takes a step of a member upon this kind; answers why it is refused, or 0. */
        private int takeMember(Step step) {
            switch (step.sort) {
                case FIELD:
                case LINK:
                    return addField(step);
                case STATIC:
                    return addStatic(step);
                case ACT:
                    return setAct(step);
                case DROP_MEMBER:
                    return removeMember(step.name);
                case RENAME:
                    return renameField(step);
                default:
                    return 0;
            }
        }

        private int addField(Step step) {
            if (hasOwnValue(step.name)) {
                return MEMBER_THERE;
            }
            if (fields >= MOST_FIELDS) {
                return TOO_FULL;
            }
            fieldName[fields] = step.name;
            fieldFirst[fields] = step.other;
            fieldFrom[fields] = NONE;
            fields++;
            return 0;
        }

        private int addStatic(Step step) {
            if (hasOwnValue(step.name)) {
                return MEMBER_THERE;
            }
            if (statics >= MOST_STATICS) {
                return TOO_FULL;
            }
            staticName[statics] = step.name;
            staticValue[statics] = step.other;
            statics++;
            return 0;
        }

        private int setAct(Step step) {
            int at = placeIn(actName, acts, step.name);
            if (at == NONE) {
                if (acts >= MOST_ACTS) {
                    return TOO_FULL;
                }
                at = acts;
                acts++;
            }
            actName[at] = step.name;
            actCode[at] = step.code;
            return 0;
        }

        private int removeMember(int member) {
            int field = fieldAt(member);
            int fix = staticAt(member);
            int act = placeIn(actName, acts, member);
            if (field != NONE) {
                closeGap(fieldName, fields, field);
                closeGap(fieldFirst, fields, field);
                closeGap(fieldFrom, fields, field);
                fields--;
            } else if (fix != NONE) {
                closeGap(staticName, statics, fix);
                closeGap(staticValue, statics, fix);
                statics--;
            } else if (act != NONE) {
                closeGap(actName, acts, act);
                System.arraycopy(actCode, act + 1, actCode, act, acts - 1 - act);
                acts--;
            } else {
                return NO_MEMBER;
            }
            return 0;
        }

        private int renameField(Step step) {
            int at = fieldAt(step.name);
            if (at == NONE) {
                return NO_MEMBER;
            }
            if (hasOwnValue(step.other)) {
                return MEMBER_THERE;
            }
            fieldName[at] = step.other;
            return 0;
        }
    }

    /** The kinds, in their order. */
    private static final class Pond {
        private final Kind[] kinds = new Kind[MOST_KINDS];
        private int count;

        private Kind find(int name) {
            for (int i = 0; i < count; i++) {
                if (kinds[i].name == name) {
                    return kinds[i];
                }
            }
            return null;
        }

        private Pond copyOfAll() {
            Pond copy = new Pond();
            copy.count = count;
            for (int i = 0; i < count; i++) {
                copy.kinds[i] = kinds[i].copyOfOwn();
            }
            for (int i = 0; i < count; i++) {
                Kind above = kinds[i].above;
                copy.kinds[i].above = above == null ? null : copy.find(above.name);
            }
            return copy;
        }

        /** Takes one step of a patch; answers why it is refused, or 0. */
        private int takeStep(Step step) {
            if (step.sort == KIND) {
                return takeKind(step);
            }
            Kind kind = find(step.kind);
            if (kind == null) {
                return NO_KIND;
            }
            switch (step.sort) {
                case CHANGE:
                    kind.touched = true;
                    return 0;
                case DROP:
                    return removeKind(kind);
                case MOVE:
                    return moveKind(kind, step.other);
                case CHECK:
                    return 0;
                default:
                    return kind.takeMember(step);
            }
        }

        private int takeKind(Step step) {
            if (find(step.kind) != null) {
                return KIND_THERE;
            }
            if (count >= MOST_KINDS) {
                return TOO_FULL;
            }
            Kind above = find(step.other);
            if (step.other != NONE && above == null) {
                return NO_KIND;
            }
            Kind kind = new Kind(step.kind);
            kind.above = above;
            kind.touched = true;
            kinds[count] = kind;
            count++;
            return 0;
        }

        private int removeKind(Kind kind) {
            int at = NONE;
            for (int i = 0; i < count; i++) {
                if (kinds[i].above == kind) {
                    return KIND_BELOW;
                }
                if (kinds[i] == kind) {
                    at = i;
                }
            }
            if (at != NONE) {
                System.arraycopy(kinds, at + 1, kinds, at, count - 1 - at);
                count--;
                kinds[count] = null;
            }
            return 0;
        }

        private int moveKind(Kind kind, int aboveName) {
            Kind above = find(aboveName);
            if (aboveName != NONE && above == null) {
                return NO_KIND;
            }
            if (above != null && above.isOrIsUnder(kind.name)) {
                return UNDER_ITSELF;
            }
            kind.above = above;
            kind.touched = true;
            return 0;
        }

        private boolean hasMemberTwice() {
            for (int i = 0; i < count; i++) {
                Kind kind = kinds[i];
                for (Kind k = kind.above; k != null; k = k.above) {
                    for (int f = 0; f < kind.fields; f++) {
                        if (k.hasOwnValue(kind.fieldName[f])) {
                            return true;
                        }
                    }
                    for (int s = 0; s < kind.statics; s++) {
                        if (k.hasOwnValue(kind.staticName[s])) {
                            return true;
                        }
                    }
                }
            }
            return false;
        }

        /** Gives the generation to what was touched and what is under it, and statics their values. */
        private void settle(Pond former, int generation) {
            for (int i = 0; i < count; i++) {
                for (Kind k = kinds[i]; k != null; k = k.above) {
                    if (k.touched) {
                        kinds[i].generation = generation;
                    }
                }
                kinds[i].settleNames();
            }
            if (former != null) {
                keepStatics(former);
            }
        }

        private void keepStatics(Pond from) {
            for (int i = 0; i < count; i++) {
                Kind kind = kinds[i];
                Kind other = from.find(kind.name);
                for (int s = 0; other != null && s < kind.statics; s++) {
                    int at = other.staticAt(kind.staticName[s]);
                    if (at != NONE) {
                        kind.staticValue[s] = other.staticValue[at];
                    }
                }
            }
        }

        /** The name of the field of a creature of the former kind from which this field comes. */
        private int sourceOf(Kind kind, int field, Kind former) {
            int own = kind.fieldFrom[field];
            if (own != NONE && former.isOrIsUnder(kind.name)) {
                return own;
            }
            int name = kind.fieldName[field];
            Kind holder = former.holderOfField(name);
            if (holder == null || holder.name == kind.name) {
                return NONE;
            }
            Kind still = find(holder.name);
            int at = still == null ? NONE : still.fieldAt(name);
            return at != NONE && still.fieldFrom[at] == name ? name : NONE;
        }
    }

    /** A creature; its values stand by the numbers of their names. */
    private static final class Creature {
        private final int number;
        private boolean living;
        private Kind kind;
        private final int[] values = new int[MOST_NAMES];
        private final boolean[] isLost = new boolean[MOST_NAMES];
        private final int[] lost = new int[MOST_NAMES];

        private Creature(int number) {
            this.number = number;
        }

        private void comeToLife(Kind ofKind) {
            living = true;
            kind = ofKind;
            for (int n = 0; n < MOST_NAMES; n++) {
                isLost[n] = false;
            }
            for (Kind k = ofKind; k != null; k = k.above) {
                for (int f = 0; f < k.fields; f++) {
                    values[k.fieldName[f]] = k.fieldFirst[f];
                }
            }
        }

        private void becomeLike(Creature other) {
            living = other.living;
            kind = other.kind;
            System.arraycopy(other.values, 0, values, 0, MOST_NAMES);
            System.arraycopy(other.isLost, 0, isLost, 0, MOST_NAMES);
            System.arraycopy(other.lost, 0, lost, 0, MOST_NAMES);
        }
    }

    /** An act that is open: whose it is, its body with the kind where it was found, and its place. */
    private static final class Frame {
        private Creature creature;
        private Kind at;
        private int act;
        private int[] code;
        private int place;
        private int last;
        private int v;

        /** Opens an act of the kind where it was found. */
        private void open(Creature forCreature, Kind foundAt, int name, int with) {
            creature = forCreature;
            at = foundAt;
            act = name;
            code = foundAt.actCode[foundAt.actPlace[name]];
            place = 0;
            last = 0;
            v = with;
        }

        private void openRule(Creature forCreature, int[] rule) {
            creature = forCreature;
            code = rule;
            place = 0;
            last = 0;
            v = 0;
        }

        private int nextPart() {
            if (code == null || place < 0 || place >= code.length) {
                return ACT_END;
            }
            place++;
            return code[place - 1];
        }
    }

    /** A long act, under way or as it was last. */
    private static final class LongAct {
        private final Frame frame = new Frame();
        private boolean known;
        private boolean underWay;
        private boolean forbids;
        private int runs;
        private int result;
        private int gaveAtEnd;

        private void startFor(Creature creature, Kind foundAt, int name, int v) {
            frame.open(creature, foundAt, name, v);
            known = true;
            underWay = true;
            forbids = false;
            runs = 0;
            result = DONE;
            gaveAtEnd = 0;
        }

        private void takeResult(int outcome, int gave) {
            if (outcome != NO_CREATURE) {
                runs++;
            }
            if (outcome != RESTS) {
                underWay = false;
                result = outcome;
                gaveAtEnd = outcome == DONE ? gave : 0;
            }
        }

        private int tell(int what) {
            switch (what) {
                case 0:
                    return underWay ? 1 : 0;
                case 1:
                    return runs;
                case 2:
                    return result;
                case 3:
                    return frame.at.generation;
                case 4:
                    return forbids ? 1 : 0;
                case 5:
                    return gaveAtEnd;
                default:
                    return NONE;
            }
        }
    }

    /** Runs acts, and works out the rules of patches. */
    private static final class Runner {
        private final Creature[] creatures;
        private final Frame[] frames = new Frame[MOST_OPEN_ACTS + 1];
        private final Frame base = new Frame();
        private int open;
        private final int[] waiting = new int[MOST_WAITING_NUMBERS];
        private int waitingCount;
        private boolean mayRest;
        private int outcomeNow;
        private int gave;
        private int failedWith;
        private int statements;
        private boolean notes;
        private final int[] ranParts = new int[MOST_RAN * PARTS_OF_RAN];
        private int ranCount;

        private Runner(Creature[] creatures) {
            this.creatures = creatures;
            for (int i = 0; i < frames.length; i++) {
                frames[i] = new Frame();
            }
        }

        /** A run of a creature's act from outside. */
        private int runAct(Creature creature, int name, int v) {
            forgetResults();
            Kind holder = creature.kind.holderOfAct(name);
            if (holder == null) {
                return NO_ACT;
            }
            base.open(creature, holder, name, v);
            noteBegun(base);
            return go(base, false);
        }

        /** The next run of a long act, whose body was begun before. */
        private int goOn(Frame frame) {
            forgetResults();
            return go(frame, true);
        }

        private void forgetResults() {
            gave = 0;
            failedWith = 0;
            statements = 0;
        }

        /** Works out a rule of a patch; false if it fails. Its value is what it gave. */
        private boolean workOut(Creature creature, int[] rule) {
            base.openRule(creature, rule);
            waitingCount = 0;
            outcomeNow = NONE;
            boolean goesOn = true;
            for (int i = 0; i < MOST_CODE && goesOn; i++) {
                goesOn = reckon(base, base.nextPart()) && outcomeNow == NONE;
            }
            gave = pop();
            return outcomeNow == NONE;
        }

        private int go(Frame first, boolean rests) {
            frames[0] = first;
            open = 0;
            waitingCount = 0;
            mayRest = rests;
            outcomeNow = NONE;
            for (int i = 0; i < MOST_INSTRUCTIONS && outcomeNow == NONE; i++) {
                Frame frame = frames[open];
                int part = frame.nextPart();
                if (!reckon(frame, part)) {
                    steer(frame, part);
                }
            }
            return outcomeNow == NONE ? SPENT : outcomeNow;
        }

        /** Does what is done with numbers; false if the instruction is none such. */
        private boolean reckon(Frame frame, int part) {
            switch (part) {
                case NUMBER:
                    push(frame.nextPart());
                    return true;
                case NAME:
                    load(frame.creature, frame.nextPart());
                    return true;
                case V:
                    push(frame.v);
                    return true;
                case LAST:
                    push(frame.last);
                    return true;
                case NEGATE:
                    push(-pop());
                    return true;
                case '=':
                    store(frame.creature, frame.nextPart(), pop());
                    return true;
                case '+':
                case '-':
                case '*':
                case '/':
                case '<':
                case SAME:
                    join(part);
                    return true;
                default:
                    return false;
            }
        }

        /** Does what moves to another place than the next. */
        private void steer(Frame frame, int part) {
            switch (part) {
                case STATEMENT:
                    burn();
                    break;
                case IF:
                    int toElse = frame.nextPart();
                    frame.place = pop() == 0 ? toElse : frame.place;
                    break;
                case ELSE:
                    frame.place = frame.nextPart();
                    break;
                case GIVE:
                    finish(pop());
                    break;
                case FAIL:
                    failWith(pop());
                    break;
                case ABOVE:
                    callAbove(frame);
                    break;
                case DO:
                    call(frame.creature, frame.nextPart());
                    break;
                case SEND:
                    send(pop(), frame.nextPart());
                    break;
                case REST:
                    if (mayRest && open == 0) {
                        outcomeNow = RESTS;
                    }
                    break;
                default:
                    finish(0);
                    break;
            }
        }

        private void burn() {
            if (statements >= FUEL) {
                outcomeNow = SPENT;
            } else {
                statements++;
            }
        }

        private void finish(int value) {
            if (open == 0) {
                gave = value;
                outcomeNow = DONE;
            } else {
                open--;
                frames[open].last = value;
            }
        }

        private void failWith(int number) {
            failedWith = number;
            outcomeNow = FAILED;
        }

        private void callAbove(Frame frame) {
            Kind above = frame.at.above;
            Kind holder = above == null ? null : above.holderOfAct(frame.act);
            if (holder == null) {
                frame.last = 0;
            } else {
                openAct(frame.creature, holder, frame.act, frame.v);
            }
        }

        private void send(int number, int act) {
            if (number < 0 || number >= creatures.length || !creatures[number].living) {
                failWith(NOBODY_THERE);
            } else {
                call(creatures[number], act);
            }
        }

        private void call(Creature creature, int act) {
            Kind holder = creature.kind.holderOfAct(act);
            if (holder == null) {
                failWith(UNKNOWN_ACT);
            } else {
                openAct(creature, holder, act, 0);
            }
        }

        private void openAct(Creature creature, Kind holder, int act, int v) {
            if (open >= MOST_OPEN_ACTS) {
                failWith(TOO_DEEP);
                return;
            }
            open++;
            frames[open].open(creature, holder, act, v);
            noteBegun(frames[open]);
        }

        private void noteBegun(Frame frame) {
            if (!notes || ranCount >= MOST_RAN) {
                return;
            }
            int from = ranCount * PARTS_OF_RAN;
            ranParts[from] = frame.creature.number;
            ranParts[from + 1] = frame.act;
            ranParts[from + 2] = frame.at.name;
            ranParts[from + 3] = frame.at.generation;
            ranCount++;
        }

        private void load(Creature creature, int name) {
            Kind kind = creature.kind;
            Kind holder = kind.holderOfStatic(name);
            if (kind.hasField(name)) {
                push(creature.values[name]);
            } else if (holder != null) {
                push(holder.staticValue[kind.staticPlace[name]]);
            } else if (isName(name) && creature.isLost[name]) {
                push(creature.lost[name]);
            } else {
                failWith(UNKNOWN_NAME);
            }
        }

        private void store(Creature creature, int name, int value) {
            Kind kind = creature.kind;
            Kind holder = kind.holderOfStatic(name);
            if (kind.hasField(name)) {
                creature.values[name] = value;
            } else if (holder != null) {
                holder.staticValue[kind.staticPlace[name]] = value;
            } else if (isName(name) && creature.isLost[name]) {
                creature.lost[name] = value;
            } else {
                failWith(UNKNOWN_NAME);
            }
        }

        private void join(int sign) {
            int right = pop();
            int left = pop();
            switch (sign) {
                case '+':
                    push(left + right);
                    break;
                case '-':
                    push(left - right);
                    break;
                case '*':
                    push(left * right);
                    break;
                case '/':
                    if (right == 0) {
                        failWith(DIVIDED_BY_ZERO);
                    } else {
                        push(left / right);
                    }
                    break;
                case '<':
                    push(left < right ? 1 : 0);
                    break;
                default:
                    push(left == right ? 1 : 0);
                    break;
            }
        }

        private void push(int number) {
            if (waitingCount < waiting.length) {
                waiting[waitingCount] = number;
                waitingCount++;
            }
        }

        private int pop() {
            if (waitingCount <= 0) {
                return 0;
            }
            waitingCount--;
            return waiting[waitingCount];
        }
    }

    /** A patch that is kept. */
    private static final class Patch {
        private final ArrayList<Step> steps;
        private int state = NOT_CALLED_FOR;

        private Patch(ArrayList<Step> steps) {
            this.steps = steps;
        }

        /** The latest rule for a field that holds for creatures of this kind, or null. */
        private Step ruleFor(Kind kind, int field) {
            for (int i = steps.size() - 1; i >= 0; i--) {
                Step step = steps.get(i);
                if (step.sort == CARRY && step.name == field && kind.isOrIsUnder(step.kind)) {
                    return step;
                }
            }
            return null;
        }
    }

    /** Keeps the patches, makes the one that waits, and takes the latest one back. */
    private static final class Patcher {
        private final Creature[] creatures;
        private final Runner runner;
        // What the creatures become if nothing refuses the patch.
        private final Creature[] carried = new Creature[MOST_CREATURES];
        private final Patch[] patches = new Patch[MOST_PATCHES];
        private int kept;
        private Patch waiting;
        private int waited;
        // The one that back() takes back, and the pond from before it.
        private Patch latest;
        private Pond before;
        private int generation;
        private int why;
        private int whichChange = NONE;
        private int whichCreature = NONE;
        private final Kind[] chain = new Kind[MOST_KINDS];
        private final int[] goesTo = new int[MOST_NAMES];

        private Patcher(Creature[] creatures, Runner runner) {
            this.creatures = creatures;
            this.runner = runner;
            for (int c = 0; c < MOST_CREATURES; c++) {
                carried[c] = new Creature(c);
            }
        }

        private void forgetAll() {
            kept = 0;
            waiting = null;
            latest = null;
            before = null;
            generation = 0;
        }

        private boolean isFull() {
            return kept >= MOST_PATCHES;
        }

        private int keep(ArrayList<Step> steps) {
            if (isFull()) {
                return NONE;
            }
            patches[kept] = new Patch(steps);
            kept++;
            return kept - 1;
        }

        private boolean callFor(int k) {
            if (k < 0 || k >= kept || waiting != null) {
                return false;
            }
            waiting = patches[k];
            waiting.state = WAITS;
            waited = 0;
            return true;
        }

        /** The end of a beat; answers the pond that is there behind it. */
        private Pond quietPoint(Pond now, boolean forbidden) {
            Patch patch = waiting;
            if (patch == null) {
                return now;
            }
            if (forbidden) {
                waited++;
                if (waited >= BEATS_TO_WAIT) {
                    patch.state = GIVEN_UP;
                    waiting = null;
                }
                return now;
            }
            waiting = null;
            Pond work = now.copyOfAll();
            if (!takeSteps(patch, now, work) || !carryAll(patch, work) || !checkAll(patch)) {
                patch.state = REFUSED;
                return now;
            }
            for (int c = 0; c < MOST_CREATURES; c++) {
                creatures[c].becomeLike(carried[c]);
            }
            generation++;
            patch.state = APPLIED;
            latest = patch;
            before = now;
            return work;
        }

        private boolean takeSteps(Patch patch, Pond now, Pond work) {
            for (int i = 0; i < patch.steps.size(); i++) {
                Step step = patch.steps.get(i);
                int reason = work.takeStep(step);
                if (reason != 0) {
                    return refuse(reason, step.change, NONE);
                }
            }
            if (work.hasMemberTwice()) {
                return refuse(MEMBER_ABOVE, NONE, NONE);
            }
            work.settle(now, generation + 1);
            return true;
        }

        private boolean refuse(int reason, int change, int creature) {
            why = reason;
            whichChange = change;
            whichCreature = creature;
            return false;
        }

        private boolean carryAll(Patch patch, Pond work) {
            for (int c = 0; c < MOST_CREATURES; c++) {
                Creature old = creatures[c];
                Creature fresh = carried[c];
                fresh.becomeLike(old);
                if (!old.living) {
                    continue;
                }
                Kind kind = work.find(old.kind.name);
                if (kind == null) {
                    fresh.living = false;
                    continue;
                }
                fresh.kind = kind;
                if (kind.generation == generation + 1 && !carry(patch, work, old, fresh)) {
                    return false;
                }
            }
            return true;
        }

        private boolean carry(Patch patch, Pond work, Creature old, Creature fresh) {
            Arrays.fill(goesTo, NONE);
            for (int i = chainOf(fresh.kind) - 1; i >= 0; i--) {
                Kind kind = chain[i];
                for (int f = 0; f < kind.fields; f++) {
                    int name = kind.fieldName[f];
                    int source = work.sourceOf(kind, f, old.kind);
                    fresh.values[name] = source == NONE ? kind.fieldFirst[f] : old.values[source];
                    if (source != NONE) {
                        goesTo[source] = name;
                    }
                    Step rule = patch.ruleFor(fresh.kind, name);
                    if (rule != null) {
                        if (!runner.workOut(old, rule.code)) {
                            return refuse(RULE_FAILS, rule.change, old.number);
                        }
                        fresh.values[name] = runner.gave;
                    }
                }
            }
            loseTheRest(old, fresh);
            return true;
        }

        /** Fields that go nowhere are lost. */
        private void loseTheRest(Creature old, Creature fresh) {
            for (Kind k = old.kind; k != null; k = k.above) {
                for (int f = 0; f < k.fields; f++) {
                    int name = k.fieldName[f];
                    if (goesTo[name] == NONE) {
                        fresh.isLost[name] = true;
                        fresh.lost[name] = old.values[name];
                    }
                }
            }
        }

        /** Writes the kind and those above it, the farthest last; answers how many they are. */
        private int chainOf(Kind kind) {
            int length = 0;
            for (Kind k = kind; k != null && length < MOST_KINDS; k = k.above) {
                chain[length] = k;
                length++;
            }
            return length;
        }

        private boolean checkAll(Patch patch) {
            for (int i = 0; i < patch.steps.size(); i++) {
                Step step = patch.steps.get(i);
                for (int c = 0; step.sort == CHECK && c < MOST_CREATURES; c++) {
                    Creature fresh = carried[c];
                    boolean asked = fresh.living && fresh.kind.isOrIsUnder(step.kind);
                    if (asked && !(runner.workOut(fresh, step.code) && runner.gave != 0)) {
                        return refuse(CHECK_FAILS, step.change, c);
                    }
                }
            }
            return true;
        }

        private boolean canTakeBack() {
            return latest != null && before != null && waiting == null;
        }

        /** Answers the pond from before the latest patch, with the creatures brought there. */
        private Pond takeBack(Pond now) {
            Pond former = before;
            former.keepStatics(now);
            for (int c = 0; c < MOST_CREATURES; c++) {
                Creature creature = creatures[c];
                Kind kind = creature.living ? former.find(creature.kind.name) : null;
                if (kind == null) {
                    creature.living = false;
                } else if (creature.kind.generation == generation) {
                    bringBack(creature, carried[c], kind, now);
                } else {
                    creature.kind = kind;
                }
            }
            latest.state = TAKEN_BACK;
            latest = null;
            before = null;
            return former;
        }

        private void bringBack(Creature creature, Creature fresh, Kind former, Pond now) {
            fresh.becomeLike(creature);
            fresh.kind = former;
            Arrays.fill(goesTo, NONE);
            for (Kind k = creature.kind; k != null; k = k.above) {
                for (int f = 0; f < k.fields; f++) {
                    int source = now.sourceOf(k, f, former);
                    if (source != NONE) {
                        goesTo[source] = k.fieldName[f];
                    }
                }
            }
            for (Kind k = former; k != null; k = k.above) {
                for (int f = 0; f < k.fields; f++) {
                    int name = k.fieldName[f];
                    if (goesTo[name] != NONE) {
                        fresh.values[name] = creature.values[goesTo[name]];
                    } else {
                        fresh.values[name] = creature.isLost[name] ? creature.lost[name] : k.fieldFirst[f];
                    }
                }
            }
            creature.becomeLike(fresh);
        }
    }
}
