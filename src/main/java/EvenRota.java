import java.util.Arrays;

/** A rota of turns among people with parts, and how even it is at every moment. */
public final class EvenRota {
    public static final int NONE = -1;

    private static final int WHOLE = 720720;
    private static final int MOST_PERSONS = 16;
    private static final int MOST_PARTS = 16;
    private static final int MOST_KINDS = 6;
    private static final int MOST_OTHERS = 60;
    private static final int MOST_TURNS = 200;
    private static final int MOST_DAYS = 200;
    private static final int MOST_BYTES = 900;
    private static final int MOST_ROW = 20;
    private static final int MOST_CYCLE = 48;
    private static final int MOST_TRIES = 1000;
    private static final int OPEN_BYTE = 255;
    private static final long NO_LEVEL = -1000000000000L;
    private static final int NO_DEBT = -1000000000;

    private final Tape tape;
    private final Tokens tokens;
    private final House house;
    private final Reader reader;
    private final Calendar calendar;
    private final Rota rota;
    private final Levels levels;
    private final Evener evener;
    private final Swapper swapper;
    private final Illness illness;
    private final int[] picture;
    private int pictureLength;

    public EvenRota() {
        tape = new Tape();
        tokens = new Tokens();
        house = new House();
        reader = new Reader(tokens);
        calendar = new Calendar(house);
        rota = new Rota(house, calendar);
        levels = new Levels(house, calendar, rota);
        evener = new Evener(house);
        swapper = new Swapper(house, calendar, rota, levels);
        illness = new Illness(house, calendar, rota, levels);
        picture = new int[2 * MOST_TURNS + 3];
        pictureLength = 0;
    }

    public int feed(int a, int b, int c, int d, int e) {
        if (!tape.hasRoom()) {
            return NONE;
        }
        tape.append(a);
        tape.append(b);
        tape.append(c);
        tape.append(d);
        tape.append(e);
        return tape.length;
    }

    public boolean end(int n) {
        if (n < 0 || n > tape.length) {
            return false;
        }
        tape.length = n;
        return true;
    }

    public int house() {
        int length = tape.length;
        tokens.divide(tape);
        tape.length = 0;
        if (!reader.readHouse(length)) {
            return NONE;
        }
        house.take(reader.draft);
        calendar.build(reader.tests);
        rota.openAll();
        evener.forget();
        swapper.forget();
        return calendar.turns;
    }

    public int fault(int what) {
        if (what == 0) {
            return reader.fault;
        }
        return what == 1 ? reader.faultPlace : NONE;
    }

    public int has(int what) {
        switch (what) {
            case 0:
                return house.days;
            case 1:
                return house.persons;
            case 2:
                return house.kinds;
            case 3:
                return calendar.turns;
            case 4:
                return house.parts;
            case 5:
                return rota.countOpen();
            default:
                return NONE;
        }
    }

    public int letter(boolean kind, int which, int k) {
        if (k < 0 || k >= Tokens.NAME_LETTERS || !(kind ? isKind(which) : isPerson(which))) {
            return NONE;
        }
        int name = kind ? house.kindName[which] : house.personName[which];
        return Tokens.letterOf(name, k);
    }

    public int turn(int turn, int what) {
        if (!isTurn(turn)) {
            return NONE;
        }
        switch (what) {
            case 0:
                return calendar.dayOf[turn];
            case 1:
                return calendar.kindOf[turn];
            case 2:
                return rota.countsFor[turn];
            case 3:
                return rota.servedBy[turn];
            case 4:
                return rota.barOf(turn);
            case 5:
                return calendar.rankOf[turn];
            default:
                return NONE;
        }
    }

    public int may(int person, int turn) {
        if (!isPerson(person) || !isTurn(turn)) {
            return NONE;
        }
        return (calendar.mayOf[turn] >> person) & 1;
    }

    public int due(int person, int turn) {
        if (!isPerson(person) || !isTurn(turn)) {
            return NONE;
        }
        return calendar.dueOf(person, turn);
    }

    // ---- how even it is

    public long level(int person, int kind, int i) {
        if (!isPerson(person) || !isKindOrNone(kind) || i < 0 || i > calendar.countOf(kind)) {
            return NO_LEVEL;
        }
        return levels.ahead(person, kind, i);
    }

    public long gap(int person, int kind) {
        if (!isPerson(person) || !isKindOrNone(kind)) {
            return NONE;
        }
        return levels.gapOf(person, kind);
    }

    public int stretch(int person, int kind, boolean first) {
        if (!isPerson(person) || !isKindOrNone(kind) || !levels.findStretch(person, kind)) {
            return NONE;
        }
        return calendar.turnAt(kind, first ? levels.stretchFirst : levels.stretchLast);
    }

    public long worst(int what) {
        if (what < 0 || what > 2 || !levels.findWorst()) {
            return NONE;
        }
        if (what == 0) {
            return levels.worstGap;
        }
        return what == 1 ? levels.worstKind : levels.worstPerson;
    }

    public int bars() {
        int barred = 0;
        for (int turn = 0; turn < calendar.turns; turn++) {
            if (rota.barOf(turn) != 0) {
                barred++;
            }
        }
        return barred;
    }

    public int first() {
        for (int turn = 0; turn < calendar.turns; turn++) {
            if (rota.barOf(turn) != 0) {
                return turn;
            }
        }
        return NONE;
    }

    // ---- rotas

    public boolean set(int turn, int person) {
        if (!isTurn(turn) || (person != NONE && !isPerson(person))) {
            return false;
        }
        rota.lay(turn, person);
        return true;
    }

    public boolean give(int turn, int person) {
        if (!isTurn(turn) || !isPerson(person) || rota.countsFor[turn] == NONE) {
            return false;
        }
        rota.servedBy[turn] = person;
        return true;
    }

    public int step(int seed) {
        if (seed < NONE) {
            return -2;
        }
        rota.layBySteps(seed);
        return calendar.turns - rota.countOpen();
    }

    public int round(int kind) {
        int names = readRow();
        if (names < 1 || !isKind(kind)) {
            return NONE;
        }
        int count = calendar.countOf(kind);
        for (int i = 0; i < count; i++) {
            rota.lay(calendar.turnAt(kind, i), reader.row[i % names]);
        }
        return count;
    }

    public int block(int kind) {
        int names = readRow();
        if (names < 1 || !isKind(kind)) {
            return NONE;
        }
        int count = calendar.countOf(kind);
        for (int i = 0; i < count; i++) {
            int turn = calendar.turnAt(kind, i);
            int week = calendar.dayOf[turn] / 7;
            rota.lay(turn, reader.row[week % names]);
        }
        return count;
    }

    public int even(int kind, int ahead, int behind) {
        if (!isKind(kind) || !calendar.allMay(kind) || !isShare(ahead) || !isShare(behind)) {
            return NONE;
        }
        int count = calendar.countOf(kind);
        if (!evener.canBe(count, ahead, behind)) {
            evener.keepCut();
            return 0;
        }
        for (int i = 0; i < count; i++) {
            rota.lay(calendar.turnAt(kind, i), evener.row[i]);
        }
        return 1;
    }

    public int cut(int what) {
        if (what == 0) {
            return evener.keptTurn;
        }
        return what == 1 ? evener.keptPersons : NONE;
    }

    public int least(int kind) {
        if (!isKind(kind) || !calendar.allMay(kind)) {
            return NONE;
        }
        return evener.leastOf(calendar.countOf(kind));
    }

    public int cycle(int n) {
        if (n < 1 || n > MOST_CYCLE || house.persons == 0 || !evener.isWhole(n)) {
            return NONE;
        }
        return evener.leastOf(n);
    }

    public int swaps(int tries) {
        if (tries < 1 || tries > MOST_TRIES) {
            return NONE;
        }
        return swapper.improve(tries);
    }

    public int ended() {
        return swapper.howEnded;
    }

    // ---- ill ones, reasons, trades

    public int ill(int person, int from, int to, long bound) {
        // As in a person's from .. to, the days may lie behind the house's last one.
        if (!isPerson(person) || from < 0 || to < from || to >= MOST_DAYS || bound < 0) {
            return NONE;
        }
        return illness.replace(person, from, to, bound);
    }

    public int could(int turn) {
        return isTurn(turn) ? rota.ableFor(turn) : NONE;
    }

    public int behind(int turn) {
        if (!isTurn(turn)) {
            return NONE;
        }
        int able = rota.ableFor(turn);
        int kind = calendar.kindOf[turn];
        int found = NONE;
        long most = 0;
        for (int person = 0; person < house.persons; person++) {
            if (((able >> person) & 1) != 0) {
                long lack = calendar.dueOf(person, turn) - levels.ahead(person, kind, calendar.rankOf[turn]);
                if (found == NONE || lack > most) {
                    found = person;
                    most = lack;
                }
            }
        }
        return found;
    }

    public int owes(int first, int second) {
        if (!isPerson(first) || !isPerson(second)) {
            return NO_DEBT;
        }
        return rota.servedInstead(second, first) - rota.servedInstead(first, second);
    }

    public int meet(int first, int second) {
        if (!isPerson(first) || !isPerson(second) || first == second) {
            return NONE;
        }
        return rota.daysTogether(first, second);
    }

    public int meets(boolean most) {
        int found = NONE;
        for (int one = 0; one < house.persons; one++) {
            for (int other = one + 1; other < house.persons; other++) {
                int days = rota.daysTogether(one, other);
                if (found == NONE || (most ? days > found : days < found)) {
                    found = days;
                }
            }
        }
        return found;
    }

    // ---- images

    public int image() {
        picture[0] = calendar.turns;
        int sum = calendar.turns;
        int mixed = calendar.turns;
        int at = 1;
        for (int turn = 0; turn < calendar.turns; turn++) {
            picture[at] = rota.countsFor[turn] & OPEN_BYTE;
            picture[at + 1] = rota.servedBy[turn] & OPEN_BYTE;
            sum += picture[at] + picture[at + 1];
            mixed ^= picture[at] ^ picture[at + 1];
            at += 2;
        }
        picture[at] = sum & 255;
        picture[at + 1] = mixed;
        pictureLength = at + 2;
        return pictureLength;
    }

    public int octet(int k) {
        return k >= 0 && k < pictureLength ? picture[k] : NONE;
    }

    public boolean on() {
        int length = tape.length;
        tape.length = 0;
        if (!isPicture(length)) {
            return false;
        }
        for (int turn = 0; turn < calendar.turns; turn++) {
            int counts = tape.bytes[2 * turn + 1];
            int serves = tape.bytes[2 * turn + 2];
            rota.countsFor[turn] = counts == OPEN_BYTE ? NONE : counts;
            rota.servedBy[turn] = serves == OPEN_BYTE ? NONE : serves;
        }
        return true;
    }

    // ---- what the calls above share

    private boolean isPerson(int person) {
        return person >= 0 && person < house.persons;
    }

    private boolean isKind(int kind) {
        return kind >= 0 && kind < house.kinds;
    }

    private boolean isKindOrNone(int kind) {
        return kind == NONE || isKind(kind);
    }

    private boolean isTurn(int turn) {
        return turn >= 0 && turn < calendar.turns;
    }

    private static boolean isShare(int share) {
        return share >= 0 && share <= WHOLE;
    }

    /** How many names of persons the tape tells (the reader has them then), or NONE; the tape goes. */
    private int readRow() {
        tokens.divide(tape);
        tape.length = 0;
        return reader.readRow(house);
    }

    private boolean isPicture(int length) {
        if (length != 2 * calendar.turns + 3 || tape.bytes[0] != calendar.turns) {
            return false;
        }
        int sum = 0;
        int mixed = 0;
        for (int at = 0; at < length - 2; at++) {
            sum += tape.bytes[at];
            mixed ^= tape.bytes[at];
        }
        if (tape.bytes[length - 2] != (sum & 255) || tape.bytes[length - 1] != mixed) {
            return false;
        }
        for (int turn = 0; turn < calendar.turns; turn++) {
            int counts = tape.bytes[2 * turn + 1];
            int serves = tape.bytes[2 * turn + 2];
            boolean open = counts == OPEN_BYTE && serves == OPEN_BYTE;
            if (!open && !(isPerson(counts) && isPerson(serves))) {
                return false;
            }
        }
        return true;
    }

    /** The bytes that were fed and not yet read. */
    private static final class Tape {
        private final int[] bytes = new int[MOST_BYTES];
        private int length = 0;

        private boolean hasRoom() {
            return length + 20 <= MOST_BYTES;
        }

        private void append(int four) {
            for (int shift = 24; shift >= 0 && length < MOST_BYTES; shift -= 8) {
                bytes[length] = (four >>> shift) & 255;
                length++;
            }
        }
    }

    /** The words, numbers and signs of a tape, each with its place; one that ends the text is last. */
    private static final class Tokens {
        private static final int END = 0;
        private static final int NAME = 1;
        private static final int LONG_NAME = 2;
        private static final int OWN = 3;
        private static final int NUMBER = 4;
        private static final int LONG_NUMBER = 5;
        private static final int SIGN = 6;
        /** A word or number that lacks the blank ahead of it. */
        private static final int GLUED = 7;

        private static final int DAYS = 0;
        private static final int PERSON = 1;
        private static final int PART = 2;
        private static final int FROM = 3;
        private static final int TO = 4;
        private static final int KIND = 5;
        private static final int WEIGHS = 6;
        private static final int TURN = 7;
        private static final int ON = 8;
        private static final int NEVER = 9;
        private static final int REST = 10;
        private static final int APART = 11;
        private static final int BESIDE = 12;
        private static final int OR = 13;
        private static final int AND = 14;
        private static final int NOT = 15;
        private static final int ALL = 16;
        private static final int DAY = 17;
        private static final int WEEK = 18;
        private static final int WEEKDAY = 19;

        private static final int NAME_LETTERS = 6;
        private static final int NUMBER_DIGITS = 4;
        private static final int OWN_WIDTH = 8;
        private static final int OWN_COUNT = 20;
        /** In the order of the numbers above, each filled up to OWN_WIDTH with blanks. */
        private static final String OWN_WORDS =
            "days    person  part    from    to      kind    weighs  turn    on      never   rest    apart   beside  or      and     not     all     day     week    weekday ";

        private final int[] sort = new int[MOST_BYTES + 1];
        private final int[] place = new int[MOST_BYTES + 1];
        private final int[] value = new int[MOST_BYTES + 1];
        private int count = 0;

        private void divide(Tape tape) {
            int[] bytes = tape.bytes;
            int length = tape.length;
            count = 0;
            int at = 0;
            boolean joined = false;
            for (int n = 0; n < MOST_BYTES && at < length; n++) {
                int from = at;
                if (isBlank(bytes[at])) {
                    at++;
                    joined = false;
                } else if (isLetter(bytes[at])) {
                    at = runEnd(tape, at, 'a', 'z');
                    addWord(tape, from, at, joined);
                    joined = true;
                } else if (isDigit(bytes[at])) {
                    at = runEnd(tape, at, '0', '9');
                    addNumber(tape, from, at, joined);
                    joined = true;
                } else {
                    at++;
                    add(SIGN, from, bytes[from]);
                    joined = false;
                }
            }
            add(END, length, 0);
        }

        private static int runEnd(Tape tape, int from, int low, int high) {
            int at = from;
            while (at < tape.length && tape.bytes[at] >= low && tape.bytes[at] <= high) {
                at++;
            }
            return at;
        }

        private void addWord(Tape tape, int from, int to, boolean joined) {
            int own = ownWord(tape, from, to);
            if (joined) {
                add(GLUED, from, 0);
            } else if (own != NONE) {
                add(OWN, from, own);
            } else if (to - from > NAME_LETTERS) {
                add(LONG_NAME, from, 0);
            } else {
                int name = 0;
                for (int k = 0; k < to - from; k++) {
                    name |= (tape.bytes[from + k] - 'a' + 1) << (5 * k);
                }
                add(NAME, from, name);
            }
        }

        private void addNumber(Tape tape, int from, int to, boolean joined) {
            if (joined) {
                add(GLUED, from, 0);
            } else if (to - from > NUMBER_DIGITS) {
                add(LONG_NUMBER, from, 0);
            } else {
                int number = 0;
                for (int at = from; at < to; at++) {
                    number = 10 * number + tape.bytes[at] - '0';
                }
                add(NUMBER, from, number);
            }
        }

        private void add(int newSort, int newPlace, int newValue) {
            if (count < sort.length) {
                sort[count] = newSort;
                place[count] = newPlace;
                value[count] = newValue;
                count++;
            }
        }

        private static int ownWord(Tape tape, int from, int to) {
            for (int word = 0; to - from < OWN_WIDTH && word < OWN_COUNT; word++) {
                int same = 0;
                int start = word * OWN_WIDTH;
                while (same < to - from && OWN_WORDS.charAt(start + same) == tape.bytes[from + same]) {
                    same++;
                }
                if (same == to - from && OWN_WORDS.charAt(start + same) == ' ') {
                    return word;
                }
            }
            return NONE;
        }

        private int sortAt(int at) {
            return at >= 0 && at < count ? sort[at] : END;
        }

        private int placeAt(int at) {
            return at >= 0 && at < count ? place[at] : 0;
        }

        private int valueAt(int at) {
            return at >= 0 && at < count ? value[at] : 0;
        }

        private int ownAt(int at) {
            return at >= 0 && at < count && sort[at] == OWN ? value[at] : NONE;
        }

        private int signAt(int at) {
            return at >= 0 && at < count && sort[at] == SIGN ? value[at] : NONE;
        }

        private boolean isOwn(int at, int word) {
            return at >= 0 && at < count && sort[at] == OWN && value[at] == word;
        }

        private boolean isSign(int at, int sign) {
            return at >= 0 && at < count && sort[at] == SIGN && value[at] == sign;
        }

        private static boolean isBlank(int octet) {
            return octet == 10 || octet == 32;
        }

        private static boolean isLetter(int octet) {
            return octet >= 'a' && octet <= 'z';
        }

        private static boolean isDigit(int octet) {
            return octet >= '0' && octet <= '9';
        }

        /** Letter k of a packed name, 1 to 26, or 0 behind its last one. */
        private static int letterOf(int name, int k) {
            return (name >> (5 * k)) & 31;
        }
    }

    /** Who is there, and what is asked of them, but for what depends on the day. */
    private static final class House {
        private static final int FIRST_DAYS = 28;

        private int days = FIRST_DAYS;
        private int persons = 0;
        private int kinds = 0;
        private int parts = 0;
        private int longestRest = 0;
        private final int[] personName = new int[MOST_PERSONS];
        private final int[] part = new int[MOST_PERSONS];
        private final int[] from = new int[MOST_PERSONS];
        private final int[] to = new int[MOST_PERSONS];
        private final int[] apart = new int[MOST_PERSONS];
        private final int[] beside = new int[MOST_PERSONS];
        private final int[] kindName = new int[MOST_KINDS];
        private final int[] weight = new int[MOST_KINDS];
        private final int[] rest = new int[MOST_KINDS * MOST_KINDS];

        private void clear() {
            days = FIRST_DAYS;
            persons = 0;
            kinds = 0;
            parts = 0;
            longestRest = 0;
            Arrays.fill(apart, 0);
            Arrays.fill(beside, 0);
            Arrays.fill(rest, 0);
        }

        private void take(House other) {
            days = other.days;
            persons = other.persons;
            kinds = other.kinds;
            parts = other.parts;
            longestRest = other.longestRest;
            System.arraycopy(other.personName, 0, personName, 0, MOST_PERSONS);
            System.arraycopy(other.part, 0, part, 0, MOST_PERSONS);
            System.arraycopy(other.from, 0, from, 0, MOST_PERSONS);
            System.arraycopy(other.to, 0, to, 0, MOST_PERSONS);
            System.arraycopy(other.apart, 0, apart, 0, MOST_PERSONS);
            System.arraycopy(other.beside, 0, beside, 0, MOST_PERSONS);
            System.arraycopy(other.kindName, 0, kindName, 0, MOST_KINDS);
            System.arraycopy(other.weight, 0, weight, 0, MOST_KINDS);
            System.arraycopy(other.rest, 0, rest, 0, MOST_KINDS * MOST_KINDS);
        }

        private int personCalled(int name) {
            for (int person = 0; person < persons; person++) {
                if (personName[person] == name) {
                    return person;
                }
            }
            return NONE;
        }

        private int kindCalled(int name) {
            for (int kind = 0; kind < kinds; kind++) {
                if (kindName[kind] == name) {
                    return kind;
                }
            }
            return NONE;
        }

        private void askRest(int before, int after, int askedDays) {
            int at = before * MOST_KINDS + after;
            rest[at] = Math.max(rest[at], askedDays);
            longestRest = Math.max(longestRest, askedDays);
        }

        private static void join(int[] masks, int one, int other) {
            masks[one] |= 1 << other;
            masks[other] |= 1 << one;
        }
    }

    /** The turn and never statements: their tests as steps over a stack, and the days on which they hold. */
    private static final class Tests {
        private static final int DAY = -1;
        private static final int WEEK = -2;
        private static final int WEEKDAY = -3;
        private static final int ALL = -4;
        private static final int NOT = -5;
        private static final int PLUS = -6;
        private static final int MINUS = -7;
        private static final int TIMES = -8;
        private static final int OVER = -9;
        private static final int MODULO = -10;
        private static final int LESS = -11;
        private static final int MORE = -12;
        private static final int SAME = -13;
        private static final int AND = -14;
        private static final int OR = -15;
        private static final long FARTHEST = 1000000000L;
        private static final int STACK = 64;
        private static final int DAY_WORDS = (MOST_DAYS + 31) / 32;

        /** A number not below 0 stands for itself, another one for what is done. */
        private final int[] code = new int[MOST_BYTES];
        private int codeLength = 0;
        private int statements = 0;
        private final int[] person = new int[MOST_OTHERS];
        private final int[] kind = new int[MOST_OTHERS];
        private final int[] codeEnd = new int[MOST_OTHERS];
        private final int[] truth = new int[MOST_OTHERS * DAY_WORDS];
        private final int[] stack = new int[STACK];

        private void clear() {
            codeLength = 0;
            statements = 0;
        }

        private void emit(int op) {
            if (codeLength < code.length) {
                code[codeLength] = op;
                codeLength++;
            }
        }

        /** What was emitted since the last statement is this one's test; a turn has no person. */
        private void close(int ofPerson, int ofKind) {
            if (statements < MOST_OTHERS) {
                person[statements] = ofPerson;
                kind[statements] = ofKind;
                codeEnd[statements] = codeLength;
                statements++;
            }
        }

        /** Finds on which days each test holds; answers how many turns there are. */
        private int tryAll(int days) {
            int turns = 0;
            Arrays.fill(truth, 0);
            for (int n = 0; n < statements; n++) {
                for (int day = 0; day < days && day < MOST_DAYS; day++) {
                    if (isTrue(n, day)) {
                        truth[n * DAY_WORDS + day / 32] |= 1 << (day % 32);
                        turns += person[n] == NONE ? 1 : 0;
                    }
                }
            }
            return turns;
        }

        private boolean holds(int statement, int day) {
            return ((truth[statement * DAY_WORDS + day / 32] >> (day % 32)) & 1) != 0;
        }

        private boolean isTrue(int statement, int day) {
            int depth = 0;
            int start = statement == 0 ? 0 : codeEnd[statement - 1];
            for (int at = start; at < codeEnd[statement]; at++) {
                int op = code[at];
                if (op >= ALL) {
                    if (depth < STACK) {
                        stack[depth] = leaf(op, day);
                        depth++;
                    }
                } else if (op == NOT) {
                    if (depth > 0) {
                        stack[depth - 1] = 1 - stack[depth - 1];
                    }
                } else if (depth > 1) {
                    depth--;
                    stack[depth - 1] = joined(op, stack[depth - 1], stack[depth]);
                }
            }
            return depth > 0 && stack[0] != 0;
        }

        private static int leaf(int op, int day) {
            switch (op) {
                case DAY:
                    return day;
                case WEEK:
                    return day / 7;
                case WEEKDAY:
                    return day % 7;
                case ALL:
                    return 1;
                default:
                    return op;
            }
        }

        private static int joined(int op, int left, int right) {
            switch (op) {
                case PLUS:
                    return within((long) left + right);
                case MINUS:
                    return within((long) left - right);
                case TIMES:
                    return within((long) left * right);
                case OVER:
                    return right == 0 ? 0 : Math.floorDiv(left, right);
                case MODULO:
                    return right == 0 ? 0 : Math.floorMod(left, right);
                case LESS:
                    return left < right ? 1 : 0;
                case MORE:
                    return left > right ? 1 : 0;
                case SAME:
                    return left == right ? 1 : 0;
                case AND:
                    return left & right;
                default:
                    return left | right;
            }
        }

        private static int within(long number) {
            return (int) Math.max(-FARTHEST, Math.min(FARTHEST, number));
        }
    }

    /** Reads a text as a house, statement by statement, up to its first fault; and rows of names. */
    private static final class Reader {
        private static final int MOST_DEPTH = 6;
        private static final int WRONG_BYTE = 1;
        private static final int WRONG_NUMBER = 2;
        private static final int WRONG_NAME = 3;
        private static final int TOO_DEEP = 4;
        private static final int TOO_MANY = 5;
        private static final int TOO_MANY_TURNS = 6;

        private final Tokens tokens;
        private final House draft = new House();
        private final Tests tests = new Tests();
        private final int[] row = new int[MOST_ROW];
        private int at = 0;
        private int others = 0;
        private int fault = 0;
        private int faultPlace = NONE;

        private Reader(Tokens tokens) {
            this.tokens = tokens;
        }

        private boolean readHouse(int length) {
            at = 0;
            others = 0;
            fault = 0;
            faultPlace = NONE;
            draft.clear();
            tests.clear();
            for (int n = 0; n <= MOST_BYTES && fault == 0 && tokens.sortAt(at) != Tokens.END; n++) {
                switch (tokens.ownAt(at)) {
                    case Tokens.DAYS:
                        readDays();
                        break;
                    case Tokens.PERSON:
                        readPerson();
                        break;
                    case Tokens.KIND:
                        readKind();
                        break;
                    case Tokens.TURN:
                        readTested(false);
                        break;
                    case Tokens.NEVER:
                        readTested(true);
                        break;
                    case Tokens.REST:
                        readRest();
                        break;
                    case Tokens.APART:
                        readPair(draft.apart);
                        break;
                    case Tokens.BESIDE:
                        readPair(draft.beside);
                        break;
                    default:
                        fail(WRONG_BYTE, tokens.placeAt(at));
                }
                expectSign(';');
            }
            if (fault == 0 && tests.tryAll(draft.days) > MOST_TURNS) {
                fail(TOO_MANY_TURNS, length);
            }
            return fault == 0;
        }

        private void readDays() {
            at++;
            draft.days = Math.max(1, number(1, MOST_DAYS));
        }

        private void readPerson() {
            beginCounted(draft.persons, MOST_PERSONS);
            int name = newName();
            expectOwn(Tokens.PART);
            int part = number(1, Math.min(9, MOST_PARTS - draft.parts));
            expectOwn(Tokens.FROM);
            int from = number(0, MOST_DAYS - 1);
            expectOwn(Tokens.TO);
            int to = number(from, MOST_DAYS - 1);
            if (fault == 0 && draft.persons < MOST_PERSONS) {
                draft.personName[draft.persons] = name;
                draft.part[draft.persons] = part;
                draft.from[draft.persons] = from;
                draft.to[draft.persons] = to;
                draft.parts += part;
                draft.persons++;
            }
        }

        private void readKind() {
            beginCounted(draft.kinds, MOST_KINDS);
            int name = newName();
            expectOwn(Tokens.WEIGHS);
            int weight = number(0, 9);
            if (fault == 0 && draft.kinds < MOST_KINDS) {
                draft.kindName[draft.kinds] = name;
                draft.weight[draft.kinds] = weight;
                draft.kinds++;
            }
        }

        private void readTested(boolean never) {
            beginOther();
            int person = never ? knownPerson(NONE) : NONE;
            int kind = knownKind();
            expectOwn(Tokens.ON);
            readTest(0);
            if (fault == 0) {
                tests.close(person, kind);
            }
        }

        private void readRest() {
            beginOther();
            int before = knownKind();
            int after = knownKind();
            int days = number(1, 30);
            if (fault == 0) {
                draft.askRest(before, after, days);
            }
        }

        private void readPair(int[] masks) {
            beginOther();
            int one = knownPerson(NONE);
            int other = knownPerson(one);
            if (fault == 0) {
                House.join(masks, one, other);
            }
        }

        /** One fact behind another, so that "and" binds first: an "or" waits until no "and" follows. */
        private void readTest(int depth) {
            boolean waitingAnd = false;
            boolean waitingOr = false;
            for (int n = 0; n < MOST_BYTES && fault == 0; n++) {
                readFact(depth);
                if (waitingAnd) {
                    tests.emit(Tests.AND);
                }
                waitingAnd = tokens.isOwn(at, Tokens.AND);
                if (!waitingAnd) {
                    if (waitingOr) {
                        tests.emit(Tests.OR);
                    }
                    waitingOr = tokens.isOwn(at, Tokens.OR);
                    if (!waitingOr) {
                        return;
                    }
                }
                at++;
            }
        }

        private void readFact(int depth) {
            if (fault != 0) {
                return;
            }
            boolean negated = tokens.isOwn(at, Tokens.NOT);
            boolean bracket = tokens.isSign(at, '[');
            if ((negated || bracket) && depth >= MOST_DEPTH) {
                fail(TOO_DEEP, tokens.placeAt(at));
            } else if (negated) {
                at++;
                readFact(depth + 1);
                tests.emit(Tests.NOT);
            } else if (bracket) {
                at++;
                readTest(depth + 1);
                expectSign(']');
            } else if (tokens.isOwn(at, Tokens.ALL)) {
                at++;
                tests.emit(Tests.ALL);
            } else {
                readSum(depth);
                int op = comparison(tokens.signAt(at));
                if (op == 0) {
                    fail(WRONG_BYTE, tokens.placeAt(at));
                } else {
                    at++;
                    readSum(depth);
                    tests.emit(op);
                }
            }
        }

        /** One part behind another: what adds waits until nothing that multiplies follows. */
        private void readSum(int depth) {
            int waitingFactor = 0;
            int waitingTerm = 0;
            for (int n = 0; n < MOST_BYTES && fault == 0; n++) {
                readPart(depth);
                if (waitingFactor != 0) {
                    tests.emit(waitingFactor);
                }
                waitingFactor = factorOp(tokens.signAt(at));
                if (waitingFactor == 0) {
                    if (waitingTerm != 0) {
                        tests.emit(waitingTerm);
                    }
                    waitingTerm = termOp(tokens.signAt(at));
                    if (waitingTerm == 0) {
                        return;
                    }
                }
                at++;
            }
        }

        private void readPart(int depth) {
            int place = tokens.placeAt(at);
            int sort = tokens.sortAt(at);
            int op = dayOp(tokens.ownAt(at));
            if (sort == Tokens.NUMBER) {
                tests.emit(tokens.valueAt(at));
                at++;
            } else if (sort == Tokens.LONG_NUMBER) {
                fail(WRONG_BYTE, place + Tokens.NUMBER_DIGITS);
            } else if (op != 0) {
                tests.emit(op);
                at++;
            } else if (!tokens.isSign(at, '(')) {
                fail(WRONG_BYTE, place);
            } else if (depth >= MOST_DEPTH) {
                fail(TOO_DEEP, place);
            } else {
                at++;
                readSum(depth + 1);
                if (tokens.isSign(at, ')')) {
                    at++;
                } else {
                    fail(WRONG_BYTE, tokens.placeAt(at));
                }
            }
        }

        private static int dayOp(int word) {
            switch (word) {
                case Tokens.DAY:
                    return Tests.DAY;
                case Tokens.WEEK:
                    return Tests.WEEK;
                case Tokens.WEEKDAY:
                    return Tests.WEEKDAY;
                default:
                    return 0;
            }
        }

        private static int comparison(int sign) {
            switch (sign) {
                case '<':
                    return Tests.LESS;
                case '>':
                    return Tests.MORE;
                case '=':
                    return Tests.SAME;
                default:
                    return 0;
            }
        }

        private static int factorOp(int sign) {
            switch (sign) {
                case '*':
                    return Tests.TIMES;
                case '/':
                    return Tests.OVER;
                case '%':
                    return Tests.MODULO;
                default:
                    return 0;
            }
        }

        private static int termOp(int sign) {
            switch (sign) {
                case '+':
                    return Tests.PLUS;
                case '-':
                    return Tests.MINUS;
                default:
                    return 0;
            }
        }

        /** Goes over the word that begins a statement, unless there are as many as can be. */
        private void beginCounted(int there, int most) {
            if (there >= most) {
                fail(TOO_MANY, tokens.placeAt(at));
            } else {
                at++;
            }
        }

        private void beginOther() {
            beginCounted(others, MOST_OTHERS);
            others++;
        }

        private int newName() {
            int place = tokens.placeAt(at);
            int name = name();
            if (draft.personCalled(name) != NONE || draft.kindCalled(name) != NONE) {
                fail(WRONG_NAME, place);
            }
            return name;
        }

        private int knownPerson(int unlike) {
            int place = tokens.placeAt(at);
            int person = draft.personCalled(name());
            if (person == NONE || person == unlike) {
                fail(WRONG_NAME, place);
            }
            return person;
        }

        private int knownKind() {
            int place = tokens.placeAt(at);
            int kind = draft.kindCalled(name());
            if (kind == NONE) {
                fail(WRONG_NAME, place);
            }
            return kind;
        }

        private int name() {
            int sort = tokens.sortAt(at);
            if (fault == 0 && sort == Tokens.NAME) {
                at++;
                return tokens.valueAt(at - 1);
            }
            fail(WRONG_BYTE, tokens.placeAt(at) + (sort == Tokens.LONG_NAME ? Tokens.NAME_LETTERS : 0));
            return NONE;
        }

        private int number(int low, int high) {
            int sort = tokens.sortAt(at);
            int value = tokens.valueAt(at);
            if (fault == 0 && sort == Tokens.NUMBER && value >= low && value <= high) {
                at++;
                return value;
            }
            if (sort == Tokens.NUMBER) {
                fail(WRONG_NUMBER, tokens.placeAt(at));
            } else {
                fail(WRONG_BYTE, tokens.placeAt(at) + (sort == Tokens.LONG_NUMBER ? Tokens.NUMBER_DIGITS : 0));
            }
            return NONE;
        }

        private void expectOwn(int word) {
            if (tokens.isOwn(at, word)) {
                at++;
            } else {
                fail(WRONG_BYTE, tokens.placeAt(at));
            }
        }

        private void expectSign(int sign) {
            if (tokens.isSign(at, sign)) {
                at++;
            } else {
                fail(WRONG_BYTE, tokens.placeAt(at));
            }
        }

        /** Only the first fault along the text is kept. */
        private void fail(int which, int place) {
            if (fault == 0) {
                fault = which;
                faultPlace = place;
            }
        }

        /** How many persons of the house the tokens tell, 1 to MOST_ROW, into row; NONE if anything else. */
        private int readRow(House house) {
            int names = 0;
            while (names < MOST_ROW && tokens.sortAt(names) == Tokens.NAME) {
                row[names] = house.personCalled(tokens.valueAt(names));
                if (row[names] == NONE) {
                    return NONE;
                }
                names++;
            }
            return names > 0 && tokens.sortAt(names) == Tokens.END ? names : NONE;
        }
    }

    /** The turns by their numbers: when they are, of which kind, who may have them, what is due in them. */
    private static final class Calendar {
        private final House house;
        private int turns = 0;
        private final int[] dayOf = new int[MOST_TURNS];
        private final int[] kindOf = new int[MOST_TURNS];
        private final int[] mayOf = new int[MOST_TURNS];
        /** What is due to one part of somebody who may have the turn. */
        private final int[] unitOf = new int[MOST_TURNS];
        private final int[] rankOf = new int[MOST_TURNS];
        private final int[] byKind = new int[MOST_TURNS];
        private final int[] kindFirst = new int[MOST_KINDS + 1];
        private final int[] dayFirst = new int[MOST_DAYS + 1];

        private Calendar(House house) {
            this.house = house;
        }

        private void build(Tests tests) {
            turns = 0;
            for (int day = 0; day < MOST_DAYS; day++) {
                dayFirst[day] = turns;
                for (int kind = 0; day < house.days && kind < house.kinds; kind++) {
                    addTurns(tests, day, kind);
                }
            }
            dayFirst[MOST_DAYS] = turns;
            sortByKind();
        }

        private void addTurns(Tests tests, int day, int kind) {
            int mask = present(day);
            int count = 0;
            for (int n = 0; n < tests.statements; n++) {
                if (tests.kind[n] == kind && tests.holds(n, day)) {
                    if (tests.person[n] == NONE) {
                        count++;
                    } else {
                        mask &= ~(1 << tests.person[n]);
                    }
                }
            }
            int unit = unitAmong(mask);
            for (int n = 0; n < count && turns < MOST_TURNS; n++) {
                dayOf[turns] = day;
                kindOf[turns] = kind;
                mayOf[turns] = mask;
                unitOf[turns] = unit;
                turns++;
            }
        }

        private int present(int day) {
            int mask = 0;
            for (int person = 0; person < house.persons; person++) {
                if (day >= house.from[person] && day <= house.to[person]) {
                    mask |= 1 << person;
                }
            }
            return mask;
        }

        private int unitAmong(int mask) {
            int parts = 0;
            for (int person = 0; person < house.persons; person++) {
                if (((mask >> person) & 1) != 0) {
                    parts += house.part[person];
                }
            }
            return parts == 0 ? 0 : WHOLE / parts;
        }

        private void sortByKind() {
            int sorted = 0;
            for (int kind = 0; kind < MOST_KINDS; kind++) {
                kindFirst[kind] = sorted;
                for (int turn = 0; turn < turns; turn++) {
                    if (kindOf[turn] == kind && sorted < MOST_TURNS) {
                        rankOf[turn] = sorted - kindFirst[kind];
                        byKind[sorted] = turn;
                        sorted++;
                    }
                }
            }
            kindFirst[MOST_KINDS] = sorted;
        }

        private int dueOf(int person, int turn) {
            return ((mayOf[turn] >> person) & 1) * house.part[person] * unitOf[turn];
        }

        /** How many turns a kind has, or with NONE all. */
        private int countOf(int kind) {
            return kind == NONE ? turns : kindFirst[kind + 1] - kindFirst[kind];
        }

        /** The number of the i-th turn of a kind, or with NONE of all. */
        private int turnAt(int kind, int i) {
            return kind == NONE ? i : byKind[kindFirst[kind] + i];
        }

        private boolean allMay(int kind) {
            int everybody = (1 << house.persons) - 1;
            int count = countOf(kind);
            for (int i = 0; i < count; i++) {
                if (mayOf[turnAt(kind, i)] != everybody) {
                    return false;
                }
            }
            return true;
        }
    }

    /** For whom each turn counts and who serves it, and what bars that. */
    private static final class Rota {
        private final House house;
        private final Calendar calendar;
        private final int[] countsFor = new int[MOST_TURNS];
        private final int[] servedBy = new int[MOST_TURNS];
        /** While stepping: the level of each person in each kind. */
        private final long[] standing = new long[MOST_PERSONS * MOST_KINDS];
        private long lot = 0;

        private Rota(House house, Calendar calendar) {
            this.house = house;
            this.calendar = calendar;
        }

        private void openAll() {
            Arrays.fill(countsFor, NONE);
            Arrays.fill(servedBy, NONE);
        }

        private void lay(int turn, int person) {
            countsFor[turn] = person;
            servedBy[turn] = person;
        }

        private int countOpen() {
            int open = 0;
            for (int turn = 0; turn < calendar.turns; turn++) {
                if (countsFor[turn] == NONE) {
                    open++;
                }
            }
            return open;
        }

        private int dayEnd(int turn) {
            return calendar.dayFirst[calendar.dayOf[turn] + 1];
        }

        private int dayStart(int turn) {
            return calendar.dayFirst[calendar.dayOf[turn]];
        }

        /** Who serves other turns on the turn's day. */
        private int othersThatDay(int turn) {
            int mask = 0;
            int last = dayEnd(turn);
            for (int other = dayStart(turn); other < last; other++) {
                if (other != turn && servedBy[other] != NONE) {
                    mask |= 1 << servedBy[other];
                }
            }
            return mask;
        }

        /** Who served a turn on a day ahead of the turn's, too few days ago for its kind. */
        private int restingFor(int turn) {
            int mask = 0;
            int today = dayStart(turn);
            for (int other = restStart(turn); other < today; other++) {
                if (servedBy[other] != NONE && asksRest(other, turn)) {
                    mask |= 1 << servedBy[other];
                }
            }
            return mask;
        }

        /** The same of one person alone, for what is asked very often. */
        private boolean isResting(int person, int turn) {
            int today = dayStart(turn);
            for (int other = restStart(turn); other < today; other++) {
                if (servedBy[other] == person && asksRest(other, turn)) {
                    return true;
                }
            }
            return false;
        }

        /** The first turn after which a rest could still be asked. */
        private int restStart(int turn) {
            int day = calendar.dayOf[turn] - house.longestRest;
            return calendar.dayFirst[day > 0 ? day : 0];
        }

        private boolean asksRest(int turn, int later) {
            int asked = house.rest[calendar.kindOf[turn] * MOST_KINDS + calendar.kindOf[later]];
            return calendar.dayOf[later] - calendar.dayOf[turn] <= asked;
        }

        private int apartFrom(int mask) {
            int found = 0;
            for (int person = 0; person < house.persons; person++) {
                if (((mask >> person) & 1) != 0) {
                    found |= house.apart[person];
                }
            }
            return found;
        }

        /** Who could serve the turn in place of who does with none of the bars 2 to 5. */
        private int ableFor(int turn) {
            int others = othersThatDay(turn);
            return calendar.mayOf[turn] & ~others & ~restingFor(turn) & ~apartFrom(others);
        }

        private int barOf(int turn) {
            int server = servedBy[turn];
            if (server == NONE) {
                return 1;
            }
            int bit = 1 << server;
            if ((calendar.mayOf[turn] & bit) == 0) {
                return 2;
            }
            int others = othersThatDay(turn);
            if ((others & bit) != 0) {
                return 3;
            }
            if (isResting(server, turn)) {
                return 4;
            }
            if ((house.apart[server] & others) != 0) {
                return 5;
            }
            boolean several = dayEnd(turn) - dayStart(turn) > 1;
            return several && (house.beside[server] & ~others) != 0 ? 6 : 0;
        }

        private void layBySteps(int seed) {
            openAll();
            Arrays.fill(standing, 0);
            lot = seed;
            for (int turn = 0; turn < calendar.turns; turn++) {
                int person = mostLacking(turn, seed != NONE);
                lay(turn, person);
                int kind = calendar.kindOf[turn];
                for (int each = 0; each < house.persons; each++) {
                    int got = each == person ? WHOLE : 0;
                    standing[each * MOST_KINDS + kind] += got - calendar.dueOf(each, turn);
                }
            }
        }

        private int mostLacking(int turn, boolean byLot) {
            int able = ableFor(turn);
            int kind = calendar.kindOf[turn];
            int like = 0;
            int count = 0;
            long most = 0;
            for (int person = 0; person < house.persons; person++) {
                if (((able >> person) & 1) != 0) {
                    long lack = calendar.dueOf(person, turn) - standing[person * MOST_KINDS + kind];
                    if (count == 0 || lack > most) {
                        most = lack;
                        like = 0;
                        count = 0;
                    }
                    if (lack == most) {
                        like |= 1 << person;
                        count++;
                    }
                }
            }
            return count == 0 ? NONE : bitInPlace(like, byLot && count > 1 ? drawn(count) : 0);
        }

        private int drawn(int count) {
            lot = (1103515245L * lot + 12345L) & 0x7fffffffL;
            return count > 0 ? (int) ((lot / 256) % count) : 0;
        }

        /** Which bit of the mask is set with so many set bits below it. */
        private static int bitInPlace(int mask, int place) {
            int left = place;
            for (int bit = 0; bit < MOST_PERSONS; bit++) {
                if (((mask >> bit) & 1) != 0) {
                    if (left == 0) {
                        return bit;
                    }
                    left--;
                }
            }
            return NONE;
        }

        private int servedInstead(int server, int owner) {
            int count = 0;
            for (int turn = 0; turn < calendar.turns; turn++) {
                if (servedBy[turn] == server && countsFor[turn] == owner) {
                    count++;
                }
            }
            return count;
        }

        private int daysTogether(int one, int other) {
            int days = 0;
            for (int day = 0; day < house.days; day++) {
                boolean hasOne = false;
                boolean hasOther = false;
                for (int turn = calendar.dayFirst[day]; turn < calendar.dayFirst[day + 1]; turn++) {
                    hasOne = hasOne || servedBy[turn] == one;
                    hasOther = hasOther || servedBy[turn] == other;
                }
                if (hasOne && hasOther) {
                    days++;
                }
            }
            return days;
        }
    }

    /** How far people are ahead or behind; a kind NONE stands for all turns by their weights. */
    private static final class Levels {
        private final House house;
        private final Calendar calendar;
        private final Rota rota;
        private int stretchFirst = NONE;
        private int stretchLast = NONE;
        private long worstGap = 0;
        private int worstKind = NONE;
        private int worstPerson = NONE;

        private Levels(House house, Calendar calendar, Rota rota) {
            this.house = house;
            this.calendar = calendar;
            this.rota = rota;
        }

        private long changeBy(int person, int kind, int i) {
            int turn = calendar.turnAt(kind, i);
            long change = (rota.countsFor[turn] == person ? WHOLE : 0) - calendar.dueOf(person, turn);
            return kind == NONE ? change * house.weight[calendar.kindOf[turn]] : change;
        }

        private long ahead(int person, int kind, int i) {
            long level = 0;
            for (int n = 0; n < i; n++) {
                level += changeBy(person, kind, n);
            }
            return level;
        }

        private long gapOf(int person, int kind) {
            int count = calendar.countOf(kind);
            long level = 0;
            long most = 0;
            long least = 0;
            for (int n = 0; n < count; n++) {
                level += changeBy(person, kind, n);
                most = Math.max(most, level);
                least = Math.min(least, level);
            }
            return most - least;
        }

        /** The first stretch over which the gap was run through; false when the gap is 0. */
        private boolean findStretch(int person, int kind) {
            long gap = gapOf(person, kind);
            int count = calendar.countOf(kind);
            long level = 0;
            long most = 0;
            long least = 0;
            int mostAt = 0;
            int leastAt = 0;
            for (int n = 0; gap > 0 && n < count; n++) {
                if (level >= most) {
                    most = level;
                    mostAt = n;
                }
                if (level <= least) {
                    least = level;
                    leastAt = n;
                }
                level += changeBy(person, kind, n);
                if (level - least == gap || most - level == gap) {
                    stretchFirst = level - least == gap ? leastAt : mostAt;
                    stretchLast = n;
                    return true;
                }
            }
            return false;
        }

        private boolean findWorst() {
            worstGap = NONE;
            for (int kind = 0; kind < house.kinds; kind++) {
                for (int person = 0; person < house.persons; person++) {
                    long gap = gapOf(person, kind);
                    if (gap > worstGap) {
                        worstGap = gap;
                        worstKind = kind;
                        worstPerson = person;
                    }
                }
            }
            return worstGap != NONE;
        }
    }

    /** Lays turns that all may have, each before the time by which it must be. */
    private static final class Evener {
        private final House house;
        private final int[] row = new int[MOST_TURNS];
        private final int[] had = new int[MOST_PERSONS];
        /** By which turn each person's next must be; the number of turns for never. */
        private final int[] must = new int[MOST_PERSONS];
        private int cutTurn = NONE;
        private int cutPersons = NONE;
        private int keptTurn = NONE;
        private int keptPersons = NONE;

        private Evener(House house) {
            this.house = house;
        }

        private void forget() {
            keptTurn = NONE;
            keptPersons = NONE;
        }

        private void keepCut() {
            keptTurn = cutTurn;
            keptPersons = cutPersons;
        }

        private int shareOf(int person) {
            return house.parts > 0 ? house.part[person] * (WHOLE / house.parts) : 0;
        }

        private boolean canBe(int count, int ahead, int behind) {
            for (int person = 0; person < house.persons; person++) {
                had[person] = 0;
                setMust(person, count, behind);
            }
            for (int turn = 0; turn < count && turn < MOST_TURNS; turn++) {
                int pressed = pressedBy(turn);
                int person = soonest(turn, ahead);
                if (person != NONE) {
                    row[turn] = person;
                    had[person]++;
                    setMust(person, count, behind);
                }
                if (person == NONE || pressedBy(turn) != 0) {
                    cutTurn = turn;
                    cutPersons = pressed;
                    return false;
                }
            }
            return true;
        }

        private void setMust(int person, int count, int behind) {
            long share = shareOf(person);
            long covered = behind + (long) had[person] * WHOLE;
            must[person] = share > 0 ? (int) Math.min(count, covered / share) : count;
        }

        /** Whose next must be had by the turn, itself too, and is not. */
        private int pressedBy(int turn) {
            int mask = 0;
            for (int person = 0; person < house.persons; person++) {
                if (must[person] <= turn) {
                    mask |= 1 << person;
                }
            }
            return mask;
        }

        private int soonest(int turn, int ahead) {
            int found = NONE;
            for (int person = 0; person < house.persons; person++) {
                long level = (had[person] + 1L) * WHOLE - (turn + 1L) * shareOf(person);
                if (level <= ahead && (found == NONE || must[person] < must[found])) {
                    found = person;
                }
            }
            return found;
        }

        /** The least bound on both sides for so many turns; what can be with one can be with all above. */
        private int leastOf(int count) {
            int low = 0;
            int high = WHOLE;
            if (!canBe(count, WHOLE, WHOLE)) {
                return NONE;
            }
            for (int n = 0; n < 32 && low < high; n++) {
                int middle = (low + high) / 2;
                if (canBe(count, middle, middle)) {
                    high = middle;
                } else {
                    low = middle + 1;
                }
            }
            return high;
        }

        private boolean isWhole(int count) {
            for (int person = 0; person < house.persons; person++) {
                if (house.parts < 1 || count * house.part[person] % house.parts != 0) {
                    return false;
                }
            }
            return true;
        }
    }

    /** Swaps turns, two by two, while that makes the rota better. */
    private static final class Swapper {
        private static final int BETTER = 2;
        private static final int NO_BETTER = 1;
        private static final int STOPPED = 0;

        private final House house;
        private final Calendar calendar;
        private final Rota rota;
        private final Levels levels;
        private final boolean[] barred = new boolean[MOST_TURNS];
        private final long[] gaps = new long[MOST_PERSONS * MOST_KINDS];
        private long worstGap = 0;
        private int left = 0;
        private int howEnded = NONE;

        private Swapper(House house, Calendar calendar, Rota rota, Levels levels) {
            this.house = house;
            this.calendar = calendar;
            this.rota = rota;
            this.levels = levels;
        }

        private void forget() {
            howEnded = NONE;
        }

        private int improve(int tries) {
            int done = 0;
            left = tries;
            howEnded = STOPPED;
            for (int n = 0; n <= tries; n++) {
                measure();
                int found = goOverPairs();
                if (found != BETTER) {
                    howEnded = found;
                    return done;
                }
                done++;
            }
            return done;
        }

        private void measure() {
            for (int turn = 0; turn < calendar.turns; turn++) {
                barred[turn] = rota.barOf(turn) != 0;
            }
            worstGap = 0;
            for (int person = 0; person < house.persons; person++) {
                for (int kind = 0; kind < house.kinds; kind++) {
                    long gap = levels.gapOf(person, kind);
                    gaps[person * MOST_KINDS + kind] = gap;
                    worstGap = Math.max(worstGap, gap);
                }
            }
        }

        /** Tries pair by pair; one that is better stays done. */
        private int goOverPairs() {
            for (int i = 0; i < calendar.turns; i++) {
                int one = rota.countsFor[i];
                for (int j = i + 1; one != NONE && j < calendar.turns; j++) {
                    int other = rota.countsFor[j];
                    if (other != NONE && other != one) {
                        if (left == 0) {
                            return STOPPED;
                        }
                        left--;
                        exchange(i, j);
                        if (isBetter(i, j)) {
                            return BETTER;
                        }
                        exchange(i, j);
                    }
                }
            }
            return NO_BETTER;
        }

        private void exchange(int i, int j) {
            int counts = rota.countsFor[i];
            int serves = rota.servedBy[i];
            rota.countsFor[i] = rota.countsFor[j];
            rota.servedBy[i] = rota.servedBy[j];
            rota.countsFor[j] = counts;
            rota.servedBy[j] = serves;
        }

        private boolean isBetter(int i, int j) {
            int more = moreBarred(i, j);
            return more < 0 || (more == 0 && isWorstLess(i, j));
        }

        /** How many more turns are barred than before: only those near i and j can have changed. */
        private int moreBarred(int i, int j) {
            int more = 0;
            int lastDay = Math.min(MOST_DAYS - 1, calendar.dayOf[j] + house.longestRest);
            int end = calendar.dayFirst[lastDay + 1];
            for (int turn = rota.dayStart(i); turn < end; turn++) {
                if (mayChange(turn, i, j)) {
                    more += (rota.barOf(turn) != 0 ? 1 : 0) - (barred[turn] ? 1 : 0);
                }
            }
            return more;
        }

        private boolean mayChange(int turn, int i, int j) {
            int day = calendar.dayOf[turn];
            int since = day - (day >= calendar.dayOf[j] ? calendar.dayOf[j] : calendar.dayOf[i]);
            if (since == 0) {
                return true;
            }
            int server = rota.servedBy[turn];
            return since <= house.longestRest && (server == rota.servedBy[i] || server == rota.servedBy[j]);
        }

        private boolean isWorstLess(int i, int j) {
            int one = rota.countsFor[i];
            int other = rota.countsFor[j];
            int kindOfOne = calendar.kindOf[i];
            int kindOfOther = calendar.kindOf[j];
            for (int person = 0; person < house.persons; person++) {
                for (int kind = 0; kind < house.kinds; kind++) {
                    boolean touched = (person == one || person == other)
                        && (kind == kindOfOne || kind == kindOfOther);
                    if (!touched && gaps[person * MOST_KINDS + kind] >= worstGap) {
                        return false;
                    }
                }
            }
            return levels.gapOf(one, kindOfOne) < worstGap && levels.gapOf(other, kindOfOne) < worstGap
                && (kindOfOne == kindOfOther
                    || (levels.gapOf(one, kindOfOther) < worstGap && levels.gapOf(other, kindOfOther) < worstGap));
        }
    }

    /** Finds others for the turns of one who is ill. */
    private static final class Illness {
        private static final int MOST_ILL = 6;
        private static final int MOST_WAYS = 2000;
        private static final int NO_WAY = -2;
        private static final int TOO_MANY_WAYS = -3;

        private final House house;
        private final Calendar calendar;
        private final Rota rota;
        private final Levels levels;
        private final int[] turns = new int[MOST_ILL];
        private final int[] counted = new int[MOST_ILL];
        private final int[] chosen = new int[MOST_ILL];
        /** Row by row: who is left for each of the turns once so many are chosen. */
        private final int[] left = new int[(MOST_ILL + 1) * MOST_ILL];
        /** For each person, by a bit for each set of the turns: whether it is known how far the gaps are with it. */
        private final long[] known = new long[MOST_PERSONS];
        /** Likewise: whether they are within the bound. */
        private final long[] fits = new long[MOST_PERSONS];
        private int count = 0;
        private int ways = 0;
        private long bound = 0;

        private Illness(House house, Calendar calendar, Rota rota, Levels levels) {
            this.house = house;
            this.calendar = calendar;
            this.rota = rota;
            this.levels = levels;
        }

        private int replace(int person, int from, int to, long newBound) {
            if (!findTurns(person, from, to)) {
                return NONE;
            }
            if (count == 0) {
                return 0;
            }
            bound = newBound;
            ways = 0;
            Arrays.fill(known, 0);
            Arrays.fill(fits, 0);
            openTurns();
            for (int n = 0; n < count; n++) {
                left[n] = rota.ableFor(turns[n]) & ~(1 << person);
            }
            boolean found = choose(0);
            for (int n = 0; n < count; n++) {
                rota.countsFor[turns[n]] = found ? chosen[n] : counted[n];
                rota.servedBy[turns[n]] = found ? chosen[n] : person;
            }
            if (found) {
                return count;
            }
            return ways >= MOST_WAYS ? TOO_MANY_WAYS : NO_WAY;
        }

        private boolean findTurns(int person, int from, int to) {
            count = 0;
            for (int turn = calendar.dayFirst[from]; turn < calendar.dayFirst[to + 1]; turn++) {
                if (rota.servedBy[turn] == person) {
                    if (count == MOST_ILL) {
                        return false;
                    }
                    turns[count] = turn;
                    counted[count] = rota.countsFor[turn];
                    count++;
                }
            }
            return true;
        }

        private void openTurns() {
            for (int n = 0; n < count; n++) {
                rota.lay(turns[n], NONE);
            }
        }

        /** Chooses for the turns from depth on; true with the first way that will do. */
        private boolean choose(int depth) {
            if (depth >= count || depth >= MOST_ILL) {
                ways++;
                return doAllFit();
            }
            int candidates = left[depth * MOST_ILL + depth];
            for (int person = 0; person < house.persons && ways < MOST_WAYS; person++) {
                if (((candidates >> person) & 1) != 0) {
                    chosen[depth] = person;
                    if (leaveOthers(depth, person) && choose(depth + 1)) {
                        return true;
                    }
                }
            }
            return false;
        }

        /** Works out who is left for the turns behind this one; false if for one of them nobody is. */
        private boolean leaveOthers(int depth, int person) {
            int here = depth * MOST_ILL;
            int next = here + MOST_ILL;
            for (int n = depth + 1; n < count; n++) {
                left[next + n] = left[here + n] & ~barredBehind(turns[depth], turns[n], person);
                if (left[next + n] == 0) {
                    return false;
                }
            }
            return true;
        }

        /** Who can't serve the later turn when the person serves the one ahead of it. */
        private int barredBehind(int turn, int later, int person) {
            if (calendar.dayOf[turn] == calendar.dayOf[later]) {
                return (1 << person) | house.apart[person];
            }
            return rota.asksRest(turn, later) ? 1 << person : 0;
        }

        private boolean doAllFit() {
            for (int person = 0; person < house.persons; person++) {
                int taken = 0;
                for (int n = 0; n < count; n++) {
                    if (chosen[n] == person) {
                        taken |= 1 << n;
                    }
                }
                if (!doesFit(person, taken)) {
                    return false;
                }
            }
            return true;
        }

        private boolean doesFit(int person, int taken) {
            long bit = 1L << taken;
            if ((known[person] & bit) == 0) {
                for (int n = 0; n < count; n++) {
                    rota.countsFor[turns[n]] = ((taken >> n) & 1) != 0 ? person : NONE;
                }
                known[person] |= bit;
                fits[person] |= bit;
                for (int kind = 0; kind < house.kinds; kind++) {
                    if (levels.gapOf(person, kind) > bound) {
                        fits[person] &= ~bit;
                    }
                }
            }
            return (fits[person] & bit) != 0;
        }
    }
}
