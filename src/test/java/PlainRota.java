import java.util.ArrayList;
import java.util.Collections;
import java.util.List;
import java.util.TreeSet;
import java.util.function.IntPredicate;
import java.util.function.IntToLongFunction;
import java.util.regex.Matcher;
import java.util.regex.Pattern;

/**
 * The document told a second time, as plainly as can be and without any care for speed, to hold EvenRota against.
 * It shares no code with it. Its tape is a text with the bytes as signs.
 */
public final class PlainRota {
    static final int WHOLE = 720720;
    private static final List<String> OWN = List.of("days", "person", "part", "from", "to", "kind", "weighs", "turn",
        "on", "never", "rest", "apart", "beside", "or", "and", "not", "all", "day", "week", "weekday");

    private record Person(String name, int part, int from, int to) { }

    private record Kind(String name, int weight) { }

    private record Tested(int person, int kind, IntPredicate test) { }

    private record Rest(int before, int after, int days) { }

    private record Pair(int one, int other) {
        boolean of(int a, int b) {
            return one == a && other == b || one == b && other == a;
        }
    }

    private record Turn(int day, int kind) { }

    private static final class Fault extends RuntimeException {
        private static final long serialVersionUID = 1;
        final int sort;
        final int place;

        Fault(int sort, int place) {
            this.sort = sort;
            this.place = place;
        }
    }

    /** A house, as far as it has been read. */
    private static final class Told {
        int days = 28;
        List<Person> persons = new ArrayList<>();
        List<Kind> kinds = new ArrayList<>();
        List<Tested> tested = new ArrayList<>();
        List<Rest> rests = new ArrayList<>();
        List<Pair> apart = new ArrayList<>();
        List<Pair> beside = new ArrayList<>();
        int others = 0;

        int person(String name) {
            for (int n = 0; n < persons.size(); n++) {
                if (persons.get(n).name().equals(name)) {
                    return n;
                }
            }
            return -1;
        }

        int kind(String name) {
            for (int n = 0; n < kinds.size(); n++) {
                if (kinds.get(n).name().equals(name)) {
                    return n;
                }
            }
            return -1;
        }

        int parts() {
            return persons.stream().mapToInt(Person::part).sum();
        }

        List<Turn> turns() {
            List<Turn> turns = new ArrayList<>();
            for (int day = 0; day < days; day++) {
                for (int kind = 0; kind < kinds.size(); kind++) {
                    for (Tested one : tested) {
                        if (one.person() < 0 && one.kind() == kind && one.test().test(day)) {
                            turns.add(new Turn(day, kind));
                        }
                    }
                }
            }
            return turns;
        }
    }

    /** Reads straight from the text, without cutting it into pieces first. */
    private static final class Parser {
        static final Pattern PIECE = Pattern.compile("[a-z]+|[0-9]+|[^ \n]", Pattern.DOTALL);
        final String text;
        int at = 0;
        final Told told = new Told();

        Parser(String text) {
            this.text = text;
        }

        /** The piece that is next, or "" at the end; at stands at its first byte then. */
        String peek() {
            while (at < text.length() && (text.charAt(at) == ' ' || text.charAt(at) == '\n')) {
                at++;
            }
            Matcher matcher = PIECE.matcher(text);
            return matcher.find(at) ? matcher.group() : "";
        }

        static boolean isWord(String piece) {
            return piece.matches("[a-z]+");
        }

        static boolean isNumber(String piece) {
            return piece.matches("[0-9]+");
        }

        static boolean joins(char sign) {
            return sign >= 'a' && sign <= 'z' || sign >= '0' && sign <= '9';
        }

        /** Nothing that asks for a blank ahead of it may stand without one. */
        void checkBlank(String piece) {
            if ((isWord(piece) || isNumber(piece)) && at > 0 && joins(text.charAt(at - 1))) {
                throw new Fault(1, at);
            }
        }

        void expect(String piece) {
            String next = peek();
            checkBlank(next);
            if (!next.equals(piece)) {
                throw new Fault(1, at);
            }
            at += piece.length();
        }

        boolean accept(String piece) {
            String next = peek();
            checkBlank(next);
            if (next.equals(piece)) {
                at += piece.length();
                return true;
            }
            return false;
        }

        int number(int low, int high) {
            String next = peek();
            checkBlank(next);
            if (!isNumber(next)) {
                throw new Fault(1, at);
            }
            if (next.length() > 4) {
                throw new Fault(1, at + 4);
            }
            int number = Integer.parseInt(next);
            if (number < low || number > high) {
                throw new Fault(2, at);
            }
            at += next.length();
            return number;
        }

        String name() {
            String next = peek();
            checkBlank(next);
            if (!isWord(next) || OWN.contains(next)) {
                throw new Fault(1, at);
            }
            if (next.length() > 6) {
                throw new Fault(1, at + 6);
            }
            at += next.length();
            return next;
        }

        String newName() {
            String name = name();
            if (told.person(name) >= 0 || told.kind(name) >= 0) {
                throw new Fault(3, at - name.length());
            }
            return name;
        }

        int person(int unlike) {
            String name = name();
            int person = told.person(name);
            if (person < 0 || person == unlike) {
                throw new Fault(3, at - name.length());
            }
            return person;
        }

        int kind() {
            String name = name();
            int kind = told.kind(name);
            if (kind < 0) {
                throw new Fault(3, at - name.length());
            }
            return kind;
        }

        Told read() {
            while (!peek().isEmpty()) {
                statement();
                expect(";");
            }
            if (told.turns().size() > 200) {
                throw new Fault(6, text.length());
            }
            return told;
        }

        void atMost(int there, int most) {
            if (there >= most) {
                throw new Fault(5, at);
            }
        }

        void other() {
            atMost(told.others, 60);
            told.others++;
        }

        void statement() {
            String word = peek();
            checkBlank(word);
            if (word.equals("person")) {
                atMost(told.persons.size(), 16);
            } else if (word.equals("kind")) {
                atMost(told.kinds.size(), 6);
            } else if (List.of("turn", "never", "rest", "apart", "beside").contains(word)) {
                other();
            } else if (!word.equals("days")) {
                throw new Fault(1, at);
            }
            at += word.length();
            switch (word) {
                case "days" -> told.days = number(1, 200);
                case "person" -> person();
                case "kind" -> {
                    String name = newName();
                    expect("weighs");
                    told.kinds.add(new Kind(name, number(0, 9)));
                }
                case "turn" -> {
                    int kind = kind();
                    expect("on");
                    told.tested.add(new Tested(-1, kind, test(0)));
                }
                case "never" -> {
                    int person = person(-1);
                    int kind = kind();
                    expect("on");
                    told.tested.add(new Tested(person, kind, test(0)));
                }
                case "rest" -> {
                    int before = kind();
                    int after = kind();
                    told.rests.add(new Rest(before, after, number(1, 30)));
                }
                default -> {
                    int one = person(-1);
                    int other = person(one);
                    (word.equals("apart") ? told.apart : told.beside).add(new Pair(one, other));
                }
            }
        }

        void person() {
            String name = newName();
            expect("part");
            int part = number(1, 9);
            if (told.parts() + part > 16) {
                throw new Fault(2, at - 1 - trailing());
            }
            expect("from");
            int from = number(0, 199);
            expect("to");
            int to = number(from, 199);
            told.persons.add(new Person(name, part, from, to));
        }

        /** How many zeros stand ahead of the one digit of a part. */
        int trailing() {
            int zeros = 0;
            while (text.charAt(at - 2 - zeros) == '0') {
                zeros++;
            }
            return zeros;
        }

        void open(int depth) {
            if (depth >= 6) {
                throw new Fault(4, at);
            }
        }

        IntPredicate test(int depth) {
            IntPredicate left = both(depth);
            while (accept("or")) {
                left = left.or(both(depth));
            }
            return left;
        }

        IntPredicate both(int depth) {
            IntPredicate left = fact(depth);
            while (accept("and")) {
                left = left.and(fact(depth));
            }
            return left;
        }

        IntPredicate fact(int depth) {
            String next = peek();
            checkBlank(next);
            if (next.equals("not")) {
                open(depth);
                at += 3;
                return fact(depth + 1).negate();
            }
            if (next.equals("[")) {
                open(depth);
                at++;
                IntPredicate inner = test(depth + 1);
                expect("]");
                return inner;
            }
            if (accept("all")) {
                return day -> true;
            }
            IntToLongFunction left = sum(depth);
            if (accept("<")) {
                IntToLongFunction right = sum(depth);
                return day -> left.applyAsLong(day) < right.applyAsLong(day);
            }
            if (accept(">")) {
                IntToLongFunction right = sum(depth);
                return day -> left.applyAsLong(day) > right.applyAsLong(day);
            }
            expect("=");
            IntToLongFunction right = sum(depth);
            return day -> left.applyAsLong(day) == right.applyAsLong(day);
        }

        static long within(long number) {
            return number > 1000000000L ? 1000000000L : number < -1000000000L ? -1000000000L : number;
        }

        IntToLongFunction sum(int depth) {
            IntToLongFunction left = product(depth);
            while (true) {
                IntToLongFunction so = left;
                if (accept("+")) {
                    IntToLongFunction right = product(depth);
                    left = day -> within(so.applyAsLong(day) + right.applyAsLong(day));
                } else if (accept("-")) {
                    IntToLongFunction right = product(depth);
                    left = day -> within(so.applyAsLong(day) - right.applyAsLong(day));
                } else {
                    return left;
                }
            }
        }

        static long over(long left, long right) {
            if (right == 0) {
                return 0;
            }
            long whole = left / right;
            return whole * right != left && (left < 0) != (right < 0) ? whole - 1 : whole;
        }

        IntToLongFunction product(int depth) {
            IntToLongFunction left = part(depth);
            while (true) {
                IntToLongFunction so = left;
                if (accept("*")) {
                    IntToLongFunction right = part(depth);
                    left = day -> within(so.applyAsLong(day) * right.applyAsLong(day));
                } else if (accept("/")) {
                    IntToLongFunction right = part(depth);
                    left = day -> over(so.applyAsLong(day), right.applyAsLong(day));
                } else if (accept("%")) {
                    IntToLongFunction right = part(depth);
                    left = day -> {
                        long a = so.applyAsLong(day);
                        long b = right.applyAsLong(day);
                        return b == 0 ? 0 : a - b * over(a, b);
                    };
                } else {
                    return left;
                }
            }
        }

        IntToLongFunction part(int depth) {
            String next = peek();
            checkBlank(next);
            if (isNumber(next)) {
                long number = number(0, 9999);
                return day -> number;
            }
            if (accept("day")) {
                return day -> day;
            }
            if (accept("week")) {
                return day -> day / 7;
            }
            if (accept("weekday")) {
                return day -> day % 7;
            }
            if (next.equals("(")) {
                open(depth);
                at++;
                IntToLongFunction inner = sum(depth + 1);
                expect(")");
                return inner;
            }
            throw new Fault(1, at);
        }
    }

    String tape = "";
    private Told told = new Told();
    private List<Turn> turns = new ArrayList<>();
    private int[] counts = new int[0];
    private int[] serves = new int[0];
    private int fault = 0;
    private int place = -1;
    private int cutTurn = -1;
    private int cutPersons = -1;
    private int ended = -1;
    private List<Integer> image = new ArrayList<>();

    public int feed(int a, int b, int c, int d, int e) {
        if (tape.length() > 880) {
            return -1;
        }
        StringBuilder more = new StringBuilder(tape);
        for (int number : new int[] {a, b, c, d, e}) {
            for (int shift = 24; shift >= 0; shift -= 8) {
                more.append((char) (number >> shift & 255));
            }
        }
        tape = more.toString();
        return tape.length();
    }

    public boolean end(int n) {
        if (n < 0 || n > tape.length()) {
            return false;
        }
        tape = tape.substring(0, n);
        return true;
    }

    private String takeTape() {
        String taken = tape;
        tape = "";
        return taken;
    }

    public int house() {
        try {
            told = new Parser(takeTape()).read();
        } catch (Fault found) {
            fault = found.sort;
            place = found.place;
            return -1;
        }
        fault = 0;
        place = -1;
        turns = told.turns();
        counts = new int[turns.size()];
        serves = new int[turns.size()];
        openAll();
        cutTurn = -1;
        cutPersons = -1;
        ended = -1;
        return turns.size();
    }

    private void openAll() {
        java.util.Arrays.fill(counts, -1);
        java.util.Arrays.fill(serves, -1);
    }

    public int fault(int what) {
        return what == 0 ? fault : what == 1 ? place : -1;
    }

    public int has(int what) {
        int open = 0;
        for (int one : counts) {
            open += one < 0 ? 1 : 0;
        }
        int[] all = {told.days, told.persons.size(), told.kinds.size(), turns.size(), told.parts(), open};
        return what >= 0 && what < 6 ? all[what] : -1;
    }

    public int letter(boolean kind, int which, int k) {
        if (which < 0 || which >= (kind ? told.kinds.size() : told.persons.size()) || k < 0 || k > 5) {
            return -1;
        }
        String name = kind ? told.kinds.get(which).name() : told.persons.get(which).name();
        return k < name.length() ? name.charAt(k) - 'a' + 1 : 0;
    }

    private boolean isPerson(int person) {
        return person >= 0 && person < told.persons.size();
    }

    private boolean isKind(int kind) {
        return kind >= 0 && kind < told.kinds.size();
    }

    private boolean isTurn(int turn) {
        return turn >= 0 && turn < turns.size();
    }

    public int turn(int turn, int what) {
        if (!isTurn(turn) || what < 0 || what > 5) {
            return -1;
        }
        Turn it = turns.get(turn);
        return switch (what) {
            case 0 -> it.day();
            case 1 -> it.kind();
            case 2 -> counts[turn];
            case 3 -> serves[turn];
            case 4 -> bar(turn);
            default -> ofKind(it.kind()).indexOf(turn);
        };
    }

    private List<Integer> ofKind(int kind) {
        List<Integer> found = new ArrayList<>();
        for (int turn = 0; turn < turns.size(); turn++) {
            if (kind < 0 || turns.get(turn).kind() == kind) {
                found.add(turn);
            }
        }
        return found;
    }

    private boolean mayHave(int person, int turn) {
        Turn it = turns.get(turn);
        Person who = told.persons.get(person);
        if (it.day() < who.from() || it.day() > who.to()) {
            return false;
        }
        return told.tested.stream().noneMatch(
            one -> one.person() == person && one.kind() == it.kind() && one.test().test(it.day()));
    }

    public int may(int person, int turn) {
        return !isPerson(person) || !isTurn(turn) ? -1 : mayHave(person, turn) ? 1 : 0;
    }

    public int due(int person, int turn) {
        if (!isPerson(person) || !isTurn(turn)) {
            return -1;
        }
        if (!mayHave(person, turn)) {
            return 0;
        }
        int parts = 0;
        for (int each = 0; each < told.persons.size(); each++) {
            parts += mayHave(each, turn) ? told.persons.get(each).part() : 0;
        }
        return WHOLE * told.persons.get(person).part() / parts;
    }

    /** All levels, from ahead of the first to behind the last. */
    private long[] levels(int person, int kind) {
        List<Integer> these = ofKind(kind);
        long[] found = new long[these.size() + 1];
        for (int i = 0; i < these.size(); i++) {
            int turn = these.get(i);
            long change = (counts[turn] == person ? WHOLE : 0) - due(person, turn);
            found[i + 1] = found[i] + change * (kind < 0 ? told.kinds.get(turns.get(turn).kind()).weight() : 1);
        }
        return found;
    }

    public long level(int person, int kind, int i) {
        if (!isPerson(person) || kind != -1 && !isKind(kind) || i < 0 || i > ofKind(kind).size()) {
            return -1000000000000L;
        }
        return levels(person, kind)[i];
    }

    public long gap(int person, int kind) {
        if (!isPerson(person) || kind != -1 && !isKind(kind)) {
            return -1;
        }
        long[] found = levels(person, kind);
        java.util.Arrays.sort(found);
        return found[found.length - 1] - found[0];
    }

    public int stretch(int person, int kind, boolean first) {
        long gap = gap(person, kind);
        if (gap <= 0) {
            return -1;
        }
        long[] found = levels(person, kind);
        for (int b = 0; b + 1 < found.length; b++) {
            for (int a = b; a >= 0; a--) {
                if (Math.abs(found[b + 1] - found[a]) == gap) {
                    return ofKind(kind).get(first ? a : b);
                }
            }
        }
        throw new IllegalStateException("a gap without a stretch");
    }

    public long worst(int what) {
        long[] worst = {-1, -1, -1};
        for (int kind = 0; kind < told.kinds.size(); kind++) {
            for (int person = 0; person < told.persons.size(); person++) {
                if (gap(person, kind) > worst[0]) {
                    worst = new long[] {gap(person, kind), kind, person};
                }
            }
        }
        return what >= 0 && what < 3 ? worst[what] : -1;
    }

    private boolean servesOn(int person, int day, int except) {
        for (int turn = 0; turn < turns.size(); turn++) {
            if (turn != except && turns.get(turn).day() == day && serves[turn] == person) {
                return true;
            }
        }
        return false;
    }

    private int bar(int turn) {
        int who = serves[turn];
        if (who < 0) {
            return 1;
        }
        Turn it = turns.get(turn);
        if (!mayHave(who, turn)) {
            return 2;
        }
        if (servesOn(who, it.day(), turn)) {
            return 3;
        }
        for (int other = 0; other < turn; other++) {
            Turn before = turns.get(other);
            for (Rest rest : told.rests) {
                int days = it.day() - before.day();
                if (serves[other] == who && rest.before() == before.kind() && rest.after() == it.kind()
                    && days > 0 && days <= rest.days()) {
                    return 4;
                }
            }
        }
        for (int person = 0; person < told.persons.size(); person++) {
            int each = person;
            if (told.apart.stream().anyMatch(pair -> pair.of(who, each)) && servesOn(person, it.day(), -1)) {
                return 5;
            }
        }
        long thatDay = turns.stream().filter(other -> other.day() == it.day()).count();
        for (int person = 0; person < told.persons.size(); person++) {
            int each = person;
            if (thatDay > 1 && told.beside.stream().anyMatch(pair -> pair.of(who, each))
                && !servesOn(person, it.day(), -1)) {
                return 6;
            }
        }
        return 0;
    }

    public int bars() {
        int barred = 0;
        for (int turn = 0; turn < turns.size(); turn++) {
            barred += bar(turn) != 0 ? 1 : 0;
        }
        return barred;
    }

    public int first() {
        for (int turn = 0; turn < turns.size(); turn++) {
            if (bar(turn) != 0) {
                return turn;
            }
        }
        return -1;
    }

    private void lay(int turn, int person) {
        counts[turn] = person;
        serves[turn] = person;
    }

    public boolean set(int turn, int person) {
        if (!isTurn(turn) || person != -1 && !isPerson(person)) {
            return false;
        }
        lay(turn, person);
        return true;
    }

    public boolean give(int turn, int person) {
        if (!isTurn(turn) || !isPerson(person) || counts[turn] < 0) {
            return false;
        }
        serves[turn] = person;
        return true;
    }

    /** Those who could serve the turn with none of the bars 2 to 5, tried one by one. */
    private List<Integer> able(int turn) {
        List<Integer> found = new ArrayList<>();
        int before = serves[turn];
        for (int person = 0; person < told.persons.size(); person++) {
            serves[turn] = person;
            int bar = bar(turn);
            if (bar == 0 || bar == 6) {
                found.add(person);
            }
        }
        serves[turn] = before;
        return found;
    }

    private List<Integer> mostBehind(int turn) {
        List<Integer> best = new ArrayList<>();
        int kind = turns.get(turn).kind();
        int rank = ofKind(kind).indexOf(turn);
        long most = Long.MIN_VALUE;
        for (int person : able(turn)) {
            long lack = due(person, turn) - level(person, kind, rank);
            if (lack > most) {
                best.clear();
                most = lack;
            }
            if (lack == most) {
                best.add(person);
            }
        }
        return best;
    }

    public int step(int seed) {
        if (seed < -1) {
            return -2;
        }
        openAll();
        long x = seed;
        int laid = 0;
        for (int turn = 0; turn < turns.size(); turn++) {
            List<Integer> best = mostBehind(turn);
            int place = 0;
            if (seed >= 0 && best.size() > 1) {
                x = (1103515245L * x + 12345) % 2147483648L;
                place = (int) (x / 256 % best.size());
            }
            if (!best.isEmpty()) {
                lay(turn, best.get(place));
                laid++;
            }
        }
        return laid;
    }

    private List<Integer> row() {
        String text = takeTape();
        List<Integer> row = new ArrayList<>();
        if (!text.matches("[ \n]*([a-z]+[ \n]+)*[a-z]+[ \n]*")) {
            return row;
        }
        for (String name : text.replace('\n', ' ').trim().split(" +")) {
            row.add(told.person(name));
        }
        return row.size() > 20 || row.contains(-1) ? List.of() : row;
    }

    public int round(int kind) {
        List<Integer> row = row();
        if (row.isEmpty() || !isKind(kind)) {
            return -1;
        }
        List<Integer> these = ofKind(kind);
        for (int i = 0; i < these.size(); i++) {
            lay(these.get(i), row.get(i % row.size()));
        }
        return these.size();
    }

    public int block(int kind) {
        List<Integer> row = row();
        if (row.isEmpty() || !isKind(kind)) {
            return -1;
        }
        for (int turn : ofKind(kind)) {
            lay(turn, row.get(turns.get(turn).day() / 7 % row.size()));
        }
        return ofKind(kind).size();
    }

    private boolean allMay(int kind) {
        for (int turn : ofKind(kind)) {
            for (int person = 0; person < told.persons.size(); person++) {
                if (!mayHave(person, turn)) {
                    return false;
                }
            }
        }
        return true;
    }

    /** A row of n turns told by their times; or {-1, turn, persons} of the cut. */
    private int[] evenRow(int n, int ahead, int behind) {
        int persons = told.persons.size();
        int[] row = new int[n];
        int[] had = new int[persons];
        for (int turn = 0; turn < n; turn++) {
            int pressed = 0;
            int best = -1;
            long soonest = Long.MAX_VALUE;
            for (int person = 0; person < persons; person++) {
                long share = (long) WHOLE * told.persons.get(person).part() / told.parts();
                int must = 0;
                while (must < n && share * (must + 1) - (long) had[person] * WHOLE <= behind) {
                    must++;
                }
                int from = 0;
                while (from < n && (had[person] + 1L) * WHOLE - share * (from + 1) > ahead) {
                    from++;
                }
                if (must <= turn) {
                    pressed |= 1 << person;
                }
                if (from <= turn && must < soonest) {
                    soonest = must;
                    best = person;
                }
            }
            if (best < 0 || (pressed & ~(1 << best)) != 0) {
                return new int[] {-1, turn, pressed};
            }
            row[turn] = best;
            had[best]++;
        }
        return row;
    }

    public int even(int kind, int ahead, int behind) {
        if (!isKind(kind) || !allMay(kind) || ahead < 0 || behind < 0 || ahead > WHOLE || behind > WHOLE) {
            return -1;
        }
        List<Integer> these = ofKind(kind);
        int[] row = evenRow(these.size(), ahead, behind);
        if (row.length > 0 && row[0] < 0) {
            cutTurn = row[1];
            cutPersons = row[2];
            return 0;
        }
        for (int i = 0; i < row.length; i++) {
            lay(these.get(i), row[i]);
        }
        return 1;
    }

    public int cut(int what) {
        return what == 0 ? cutTurn : what == 1 ? cutPersons : -1;
    }

    /** Only numbers that are somebody's level, one way or the other, can be the least. */
    private int leastOf(int n) {
        TreeSet<Integer> all = new TreeSet<>();
        all.add(0);
        all.add(WHOLE);
        for (Person person : told.persons) {
            long share = (long) WHOLE * person.part() / told.parts();
            for (int turn = 1; turn <= n; turn++) {
                long lack = share * turn % WHOLE;
                all.add((int) lack);
                all.add((int) (WHOLE - lack));
            }
        }
        List<Integer> sorted = new ArrayList<>(all);
        int low = 0;
        int high = sorted.size();
        while (low < high) {
            int middle = (low + high) / 2;
            int[] row = evenRow(n, sorted.get(middle), sorted.get(middle));
            if (row.length > 0 && row[0] < 0) {
                low = middle + 1;
            } else {
                high = middle;
            }
        }
        return low < sorted.size() ? sorted.get(low) : -1;
    }

    public int least(int kind) {
        return isKind(kind) && allMay(kind) ? leastOf(ofKind(kind).size()) : -1;
    }

    public int cycle(int n) {
        if (n < 1 || n > 48 || told.persons.isEmpty()) {
            return -1;
        }
        for (Person person : told.persons) {
            if (n * person.part() % told.parts() != 0) {
                return -1;
            }
        }
        return leastOf(n);
    }

    private void exchange(int i, int j) {
        int[][] rows = {counts, serves};
        for (int[] row : rows) {
            int kept = row[i];
            row[i] = row[j];
            row[j] = kept;
        }
    }

    public int swaps(int tries) {
        if (tries < 1 || tries > 1000) {
            return -1;
        }
        int done = 0;
        int tried = 0;
        boolean again = true;
        while (again) {
            again = false;
            int bars = bars();
            long worst = worst(0);
            search:
            for (int i = 0; i < turns.size(); i++) {
                for (int j = i + 1; j < turns.size(); j++) {
                    if (counts[i] < 0 || counts[j] < 0 || counts[i] == counts[j]) {
                        continue;
                    }
                    if (tried == tries) {
                        ended = 0;
                        return done;
                    }
                    tried++;
                    exchange(i, j);
                    int now = bars();
                    if (now < bars || now == bars && worst(0) < worst) {
                        done++;
                        again = true;
                        break search;
                    }
                    exchange(i, j);
                }
            }
        }
        ended = 1;
        return done;
    }

    public int ended() {
        return ended;
    }

    public int ill(int person, int from, int to, long bound) {
        if (!isPerson(person) || from < 0 || to < from || to > 199 || bound < 0) {
            return -1;
        }
        List<Integer> these = new ArrayList<>();
        for (int turn = 0; turn < turns.size(); turn++) {
            int day = turns.get(turn).day();
            if (serves[turn] == person && day >= from && day <= to) {
                these.add(turn);
            }
        }
        if (these.size() > 6 || these.isEmpty()) {
            return these.isEmpty() ? 0 : -1;
        }
        int[] oldCounts = counts.clone();
        int[] oldServes = serves.clone();
        int persons = told.persons.size();
        long rows = 1;
        for (int n = 0; n < these.size(); n++) {
            rows *= persons;
        }
        int ways = 0;
        for (long row = 0; row < rows && ways < 2000; row++) {
            long rest = row;
            boolean himself = false;
            for (int n = these.size() - 1; n >= 0; n--) {
                lay(these.get(n), (int) (rest % persons));
                himself |= rest % persons == person;
                rest /= persons;
            }
            if (!himself && these.stream().allMatch(turn -> bar(turn) == 0 || bar(turn) == 6)) {
                ways++;
                if (worst(0) <= bound) {
                    return these.size();
                }
            }
        }
        counts = oldCounts;
        serves = oldServes;
        return ways == 2000 ? -3 : -2;
    }

    public int could(int turn) {
        return isTurn(turn) ? able(turn).stream().mapToInt(person -> 1 << person).sum() : -1;
    }

    public int behind(int turn) {
        List<Integer> best = isTurn(turn) ? mostBehind(turn) : List.of();
        return best.isEmpty() ? -1 : best.get(0);
    }

    public int owes(int first, int second) {
        if (!isPerson(first) || !isPerson(second)) {
            return -1000000000;
        }
        int owes = 0;
        for (int turn = 0; turn < turns.size(); turn++) {
            owes += counts[turn] == first && serves[turn] == second ? 1 : 0;
            owes -= counts[turn] == second && serves[turn] == first ? 1 : 0;
        }
        return owes;
    }

    public int meet(int first, int second) {
        if (!isPerson(first) || !isPerson(second) || first == second) {
            return -1;
        }
        int days = 0;
        for (int day = 0; day < told.days; day++) {
            days += servesOn(first, day, -1) && servesOn(second, day, -1) ? 1 : 0;
        }
        return days;
    }

    public int meets(boolean most) {
        List<Integer> all = new ArrayList<>();
        for (int one = 0; one < told.persons.size(); one++) {
            for (int other = 0; other < one; other++) {
                all.add(meet(one, other));
            }
        }
        return all.isEmpty() ? -1 : most ? Collections.max(all) : Collections.min(all);
    }

    public int image() {
        image = new ArrayList<>();
        image.add(turns.size());
        for (int turn = 0; turn < turns.size(); turn++) {
            image.add(counts[turn] < 0 ? 255 : counts[turn]);
            image.add(serves[turn] < 0 ? 255 : serves[turn]);
        }
        int sum = image.stream().mapToInt(Integer::intValue).sum() % 256;
        int mixed = image.stream().reduce(0, (a, b) -> a ^ b);
        image.add(sum);
        image.add(mixed);
        return image.size();
    }

    public int octet(int k) {
        return k >= 0 && k < image.size() ? image.get(k) : -1;
    }

    public boolean on() {
        String text = takeTape();
        int count = turns.size();
        if (text.length() != 2 * count + 3 || text.charAt(0) != count) {
            return false;
        }
        int sum = 0;
        int mixed = 0;
        for (int at = 0; at <= 2 * count; at++) {
            sum = (sum + text.charAt(at)) % 256;
            mixed ^= text.charAt(at);
        }
        if (text.charAt(2 * count + 1) != sum || text.charAt(2 * count + 2) != mixed) {
            return false;
        }
        for (int turn = 0; turn < count; turn++) {
            int one = text.charAt(2 * turn + 1);
            int other = text.charAt(2 * turn + 2);
            if (!(one == 255 && other == 255) && (!isPerson(one) || !isPerson(other))) {
                return false;
            }
        }
        for (int turn = 0; turn < count; turn++) {
            int one = text.charAt(2 * turn + 1);
            counts[turn] = one == 255 ? -1 : one;
            int other = text.charAt(2 * turn + 2);
            serves[turn] = other == 255 ? -1 : other;
        }
        return true;
    }
}
