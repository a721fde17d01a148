import java.util.ArrayList;
import java.util.List;

/** Term III and promises 17 to 25: each sentence about an edge of the rotas by itself. */
public final class RotaEdges {
    private static final int WHOLE = 720720;
    private static final String TWO = Edges.people(2);
    private static final String THREE = Edges.people(3);
    private static final int[] SEEDS = {0, 1, 2, 3, 255, 256, 257, 65535, 12345, 1103515245, 1 << 30, Integer.MAX_VALUE - 1,
        Integer.MAX_VALUE};

    private RotaEdges() {
    }

    private static String daily(int days, String people) {
        return "days " + days + ";" + people + Edges.KIND + Edges.DAILY;
    }

    // ---- set, give

    private static void set() {
        Edges.sentence("17: a TURN counts for a PERSON and is served by the same");
        Edges.house(daily(3, TWO), 3);
        Edges.is("the last person, the last turn", Edges.x.set(2, 1), true);
        Edges.laid("set", -1, -1, 1);
        Edges.is("another one", Edges.x.set(2, 0), true);
        Edges.laid("set anew", -1, -1, 0);
        Edges.is("give", Edges.x.give(2, 1), true);
        Edges.is("the same again", Edges.x.set(2, 0), true);
        Edges.laid("also who serves", -1, -1, 0);
        Edges.house(daily(3, TWO) + "never b k on all;", 3);
        Edges.is("one who may not", Edges.x.set(0, 1), true);
        Edges.laid("set", 1, -1, -1);
        Edges.sentence("17: (NONE: OPEN)");
        Edges.house(daily(2, TWO), 2);
        Edges.lay(0, 1);
        Edges.is("give", Edges.x.give(0, 1), true);
        Edges.is("none", Edges.x.set(0, -1), true);
        Edges.laid("open", -1, 1);
        Edges.is("open ones, too", Edges.x.set(0, -1), true);
        Edges.laid("open", -1, 1);
        Edges.sentence("17: false when there are none such");
        Edges.is("new", Edges.x.set(0, -1), false);
        Edges.house(daily(2, TWO), 2);
        Edges.lay(0, 1);
        Edges.is("turn 2", Edges.x.set(2, 0), false);
        Edges.is("turn 2, none", Edges.x.set(2, -1), false);
        Edges.is("turn -1", Edges.x.set(-1, 0), false);
        Edges.is("person 2", Edges.x.set(0, 2), false);
        Edges.is("person -2", Edges.x.set(0, -2), false);
        for (int far : Edges.FAR) {
            Edges.is("turn " + far, Edges.x.set(far, 0), false);
            Edges.is("turn " + far + ", none", Edges.x.set(far, -1), false);
            Edges.is("person " + far, Edges.x.set(0, far), false);
        }
        Edges.laid("all stays", 0, 1);
    }

    private static void give() {
        Edges.sentence("18: a TURN is served by a PERSON, for whomever it counts");
        Edges.house(daily(3, THREE) + "never c k on all;", 3);
        Edges.lay(0, 1, 0);
        Edges.is("the last turn", Edges.x.give(2, 1), true);
        Edges.is("to one who may not", Edges.x.give(0, 2), true);
        Edges.is("to the same", Edges.x.give(1, 1), true);
        Edges.counts("as before", 0, 1, 0);
        Edges.serves("given", 2, 1, 1);
        Edges.is("given on", Edges.x.give(2, 2), true);
        Edges.is("given back", Edges.x.give(0, 0), true);
        Edges.counts("as before", 0, 1, 0);
        Edges.serves("given", 0, 1, 2);
        Edges.sentence("18: a TURN that is not OPEN");
        Edges.house(daily(2, TWO), 2);
        Edges.is("open", Edges.x.give(0, 0), false);
        Edges.laid("still open", -1, -1);
        Edges.is("open again", Edges.x.set(0, 1) && Edges.x.set(0, -1), true);
        Edges.is("open", Edges.x.give(0, 0), false);
        Edges.laid("still open", -1, -1);
        Edges.sentence("18: false when there are none such");
        Edges.is("new", Edges.x.give(0, 0), false);
        Edges.house(daily(2, TWO), 2);
        Edges.lay(0, 1);
        Edges.is("to none", Edges.x.give(0, -1), false);
        Edges.is("person 2", Edges.x.give(0, 2), false);
        Edges.is("turn 2", Edges.x.give(2, 0), false);
        Edges.is("turn -1", Edges.x.give(-1, 0), false);
        for (int far : Edges.FAR) {
            Edges.is("turn " + far, Edges.x.give(far, 0), false);
            Edges.is("person " + far, Edges.x.give(0, far), false);
        }
        Edges.laid("all stays", 0, 1);
    }

    // ---- step

    private static void step() {
        Edges.sentence("III: STEP: all are OPEN; then TURN by TURN");
        Edges.house("days 1;" + TWO + Edges.KIND + Edges.times(2, Edges.DAILY), 2);
        Edges.lay(1, 0);
        Edges.is("step", Edges.x.step(-1), 2);
        Edges.laid("what was laid is no bar", 0, 1);
        Edges.is("give", Edges.x.give(0, 1) && Edges.x.give(1, 0), true);
        Edges.is("step", Edges.x.step(-1), 2);
        Edges.laid("nor who served", 0, 1);
        Edges.sentence("III: STEP: the greatest DUE less LEVEL (its own DUE added)");
        Edges.house(daily(4, Edges.person('a', 1) + Edges.person('b', 3)), 4);
        Edges.is("step", Edges.x.step(-1), 4);
        Edges.laid("by parts", 1, 0, 1, 1);
        Edges.house(daily(8, Edges.person('a', 3) + Edges.person('b', 1)), 8);
        Edges.is("step", Edges.x.step(-1), 8);
        Edges.laid("both lack a half ahead of the second: the least", 0, 0, 1, 0, 0, 0, 1, 0);
        Edges.house("days 2;" + Edges.person('a', 1, 0, 0) + Edges.person('b', 1) + Edges.KIND + Edges.DAILY, 2);
        Edges.is("step", Edges.x.step(-1), 2);
        Edges.laid("a alone is there", 0, 1);
        Edges.sentence("III: STEP: LEVEL of its KIND alone");
        Edges.house("days 2;" + TWO + Edges.dailyKinds(2), 4);
        Edges.is("step", Edges.x.step(-1), 4);
        Edges.laid("k: a, b; l: b, a", 0, 1, 1, 0);
        Edges.sentence("III: STEP: of like ones the least");
        Edges.house(daily(7, THREE), 7);
        Edges.is("step", Edges.x.step(-1), 7);
        Edges.laid("in turn", 0, 1, 2, 0, 1, 2, 0);
        Edges.sentence("III: STEP: with none of the BARS 2 to 5");
        Edges.house(daily(3, TWO) + "never a k on day=0;never b k on day=2;", 3);
        Edges.is("step", Edges.x.step(-1), 3);
        Edges.laid("2", 1, 0, 0);
        Edges.house("days 1;" + TWO + Edges.KIND + Edges.times(2, Edges.DAILY) + "never b k on all;", 2);
        Edges.is("step", Edges.x.step(-1), 1);
        Edges.laid("3", 0, -1);
        Edges.house(daily(5, TWO) + "rest k k 2;", 5);
        Edges.is("step", Edges.x.step(-1), 4);
        Edges.laid("4", 0, 1, -1, 0, 1);
        Edges.house("days 3;" + TWO + "kind k weighs 1;kind l weighs 1;turn k on all;turn l on day=2;rest l l 9;rest k l 1;", 4);
        Edges.is("step", Edges.x.step(-1), 3);
        Edges.laid("4, by KINDS", 0, 1, 0, -1);
        Edges.is("a served k the day ahead", Edges.x.set(1, 0), true);
        Edges.is("then b could", Edges.x.could(3), 2);
        Edges.house("days 1;" + THREE + Edges.KIND + Edges.times(2, Edges.DAILY) + "apart b a;", 2);
        Edges.is("step", Edges.x.step(-1), 2);
        Edges.laid("5", 0, 2);
        Edges.sentence("III: STEP: BAR 6 is not looked at");
        Edges.house("days 1;" + THREE + Edges.KIND + Edges.times(2, Edges.DAILY) + "beside a c;beside b c;", 2);
        Edges.is("step", Edges.x.step(-1), 2);
        Edges.laid("as without", 0, 1);
        Edges.is("bars", Edges.x.bars(), 2);
        Edges.sentence("III: STEP: OPEN, if there is none");
        Edges.house(daily(4, Edges.person('a', 1, 1, 3)) + "rest k k 1;", 4);
        Edges.is("how many are not open", Edges.x.step(-1), 2);
        Edges.laid("nobody there, nobody rested", -1, 0, -1, 0);
        Edges.is("by lot", Edges.x.step(5), 2);
        Edges.laid("by lot", -1, 0, -1, 0);
        Edges.house(Edges.KIND + Edges.DAILY, 28);
        Edges.is("without persons", Edges.x.step(-1), 0);
        Edges.house(TWO + Edges.KIND, 0);
        Edges.is("without turns", Edges.x.step(-1), 0);
    }

    private static long next(long x) {
        return (1103515245L * x + 12345L) % 2147483648L;
    }

    /** Who has the turns of n like persons, round by round, each by lot among those left. */
    private static int[] byLot(int seed, int persons, int turns) {
        int[] row = new int[turns];
        List<Integer> left = new ArrayList<>();
        long x = seed;
        for (int turn = 0; turn < turns; turn++) {
            for (int person = 0; left.isEmpty() || person > 0 && person < persons; person++) {
                left.add(person);
            }
            int place = 0;
            if (left.size() > 1) {
                x = next(x);
                place = (int) (x / 256 % left.size());
            }
            row[turn] = left.remove(place);
        }
        return row;
    }

    private static void lots() {
        Edges.sentence("III: STEP: by lot: x (the seed) becomes (1103515245 x + 12345) mod 2 to the 31");
        for (int seed : SEEDS) {
            Edges.house(daily(20, TWO), 20);
            Edges.is("seed " + seed, Edges.x.step(seed), 20);
            Edges.laid("seed " + seed, byLot(seed, 2, 20));
        }
        Edges.sentence("III: STEP: floor(x / 256) mod how many is it");
        for (int persons = 3; persons <= 7; persons++) {
            for (int seed : SEEDS) {
                Edges.house(daily(14, Edges.people(persons)), 14);
                Edges.is("seed " + seed, Edges.x.step(seed), 14);
                Edges.laid(persons + ", seed " + seed, byLot(seed, persons, 14));
            }
        }
        Edges.sentence("III: STEP: for each TURN with two or more such, for no other");
        Edges.house(daily(4, TWO) + "never b k on day=0;never a k on day=1;never a k on day=2;never b k on day=2;", 4);
        for (int seed : SEEDS) {
            Edges.is("seed " + seed, Edges.x.step(seed), 3);
            Edges.laid("seed " + seed, 0, 1, -1, (int) (next(seed) / 256 % 2));
        }
        Edges.house("days 2;" + Edges.person('a', 1) + Edges.person('b', 2) + Edges.person('c', 2) + Edges.KIND
            + Edges.times(2, Edges.DAILY), 4);
        for (int seed : SEEDS) {
            int first = 1 + (int) (next(seed) / 256 % 2);
            Edges.is("seed " + seed, Edges.x.step(seed), 4);
            Edges.laid("those who lack most alone, seed " + seed, first, 3 - first, 0, 1 + (int) (next(next(seed)) / 256 % 2));
        }
        Edges.sentence("III: STEP: the place is among those like ones that have no BAR");
        Edges.house("days 1;" + Edges.people(5) + Edges.KIND + Edges.DAILY + "never a k on all;never c k on all;", 1);
        int[] able = {1, 3, 4};
        for (int seed : SEEDS) {
            Edges.is("seed " + seed, Edges.x.step(seed), 1);
            Edges.laid("seed " + seed, able[(int) (next(seed) / 256 % 3)]);
        }
        Edges.sentence("19: with a seed (0 .. 2147483647) by lot, with NONE the least");
        Edges.house(daily(2, TWO), 2);
        Edges.is("NONE", Edges.x.step(EvenRota.NONE), 2);
        Edges.laid("the least", 0, 1);
        Edges.is("0", Edges.x.step(0), 2);
        Edges.laid("0: 12345 / 256 is 48", 0, 1);
        Edges.is("1", Edges.x.step(1), 2);
        Edges.laid("1: 1103527590 / 256 is 4310654", 0, 1);
        Edges.is("2", Edges.x.step(2), 2);
        Edges.laid("2: 59559187 / 256 is 232653", 1, 0);
        Edges.sentence("19: -2 when it can't be");
        Edges.house(daily(2, TWO), 2);
        Edges.lay(1, 1);
        Edges.is("-2", Edges.x.step(-2), -2);
        Edges.is("-3", Edges.x.step(-3), -2);
        Edges.is("the lowest", Edges.x.step(Integer.MIN_VALUE), -2);
        Edges.laid("all stays", 1, 1);
    }

    // ---- round, block

    private static void round() {
        Edges.sentence("III: ROUND: the i-th TURN is that of the i mod n-th of a row");
        Edges.house(daily(7, THREE), 7);
        Edges.is("one name", Edges.round(0, "b"), 7);
        Edges.laid("one name", 1, 1, 1, 1, 1, 1, 1);
        Edges.is("three", Edges.round(0, "c a b"), 7);
        Edges.laid("three", 2, 0, 1, 2, 0, 1, 2);
        Edges.is("as many as turns", Edges.round(0, "c c c c c c a"), 7);
        Edges.laid("as many as turns", 2, 2, 2, 2, 2, 2, 0);
        Edges.is("more than turns", Edges.round(0, "a b a b a b a c"), 7);
        Edges.laid("more than turns", 0, 1, 0, 1, 0, 1, 0);
        Edges.sentence("III: ROUND: of that KIND alone");
        Edges.house("days 3;" + TWO + Edges.dailyKinds(2), 6);
        Edges.is("l", Edges.round(1, "a b"), 3);
        Edges.laid("l", -1, 0, -1, 1, -1, 0);
        Edges.is("k", Edges.round(0, "b a"), 3);
        Edges.laid("both", 1, 0, 0, 1, 1, 0);
        Edges.sentence("20: a row of 1 to 20 NAMES");
        Edges.house(daily(21, THREE), 21);
        Edges.is("20", Edges.round(0, Edges.times(19, "a ") + "b"), 21);
        for (int turn = 0; turn < 21; turn++) {
            Edges.is("turn " + turn, Edges.x.turn(turn, 2), turn == 19 ? 1 : 0);
        }
        Edges.is("19", Edges.round(0, Edges.times(18, "b ") + "c"), 21);
        Edges.is("the last two", Edges.x.turn(18, 3) * 10 + Edges.x.turn(19, 3), 21);
        noRow("", " ", "\n \n", Edges.times(20, "a ") + "b", Edges.times(21, "a "), Edges.times(99, "a "));
        Edges.sentence("20: NAMES of PERSONS, blanks between");
        Edges.house(daily(21, "person ann part 1 from 0 to 9;person anna part 1 from 0 to 9;person b part 1 from 0 to 9;"), 21);
        Edges.is("blanks", Edges.round(0, "\n\nann\n  anna \nb \n"), 21);
        Edges.laid("blanks", 0, 1, 2, 0);
        noRow("an", "annaa", "k", "ann k", "ann,b", "ann;b", "ann b;", "ann 1", "1", "ann1", "ann\tb", "Ann", "ann day",
            "person ann", "all", "ann annannann", "annannann", "\0", "ann \0", "ann b c", "c ann", "ann [b]", "annb");
        Edges.sentence("20: the tape goes");
        Edges.house(daily(3, TWO), 3);
        Edges.is("laid", Edges.round(0, "a b"), 3);
        Edges.is("gone", Edges.x.end(1), false);
        Edges.is("no row", Edges.round(0, "a c"), -1);
        Edges.is("gone", Edges.x.end(1), false);
        Edges.is("no kind", Edges.round(1, "a b"), -1);
        Edges.is("gone", Edges.x.end(1), false);
        Edges.is("nothing there", Edges.x.round(0), -1);
        Edges.laid("all stays", 0, 1, 0);
        Edges.sentence("20: how many TURNS were laid, 0, too");
        Edges.house("days 3;" + TWO + "kind k weighs 1;kind m weighs 1;turn m on day=1;", 1);
        Edges.is("k", Edges.round(0, "a"), 0);
        Edges.is("m", Edges.round(1, "a b"), 1);
        Edges.house("days 200;" + TWO + Edges.KIND + Edges.DAILY, 200);
        Edges.is("200", Edges.round(0, "a b a"), 200);
        Edges.is("the last", Edges.x.turn(199, 3), 1);
        Edges.sentence("20: NONE when it can't be: no such KIND");
        Edges.house(daily(3, TWO), 3);
        Edges.is("1", Edges.round(1, "a"), -1);
        Edges.is("-1", Edges.round(-1, "a"), -1);
        for (int far : Edges.FAR) {
            Edges.is("kind " + far, Edges.round(far, "a"), -1);
        }
        Edges.laid("all stays", -1, -1, -1);
    }

    private static void noRow(String... rows) {
        int first = Edges.x.turn(0, 2);
        for (String row : rows) {
            Edges.is("round by '" + row + "'", Edges.round(0, row), -1);
            Edges.is("the tape went", Edges.x.end(1), false);
            Edges.is("block by '" + row + "'", Edges.block(0, row), -1);
            Edges.is("the tape went", Edges.x.end(1), false);
            Edges.is("all stays", Edges.x.turn(0, 2), first);
        }
    }

    private static void block() {
        Edges.sentence("III: BLOCK: a TURN on a DAY is that of the week mod n-th");
        Edges.house("days 200;" + THREE + Edges.KIND + "turn k on weekday=0 or weekday=6;", 57);
        Edges.is("three", Edges.block(0, "b c a"), 57);
        for (int turn = 0; turn < 57; turn++) {
            int week = Edges.x.turn(turn, 0) / 7;
            Edges.is("turn " + turn, Edges.x.turn(turn, 2), (week + 1) % 3);
            Edges.is("turn " + turn, Edges.x.turn(turn, 3), (week + 1) % 3);
        }
        Edges.is("one", Edges.block(0, "a"), 57);
        Edges.is("the last", Edges.x.turn(56, 2), 0);
        Edges.is("20", Edges.block(0, Edges.times(19, "c ") + "b"), 57);
        Edges.is("week 18", Edges.x.turn(37, 2), 2);
        Edges.is("week 19", Edges.x.turn(38, 2), 1);
        Edges.is("week 19", Edges.x.turn(39, 2), 1);
        Edges.is("week 20", Edges.x.turn(40, 2), 2);
        Edges.is("21", Edges.block(0, Edges.times(21, "c ")), -1);
        Edges.sentence("III: BLOCK: days 6 and 7, 13 and 14");
        Edges.house(daily(15, TWO), 15);
        Edges.is("two", Edges.block(0, "a b"), 15);
        Edges.laid("two", 0, 0, 0, 0, 0, 0, 0, 1, 1, 1, 1, 1, 1, 1, 0);
        Edges.sentence("21: likewise: of that KIND alone, the tape goes, NONE when it can't be");
        Edges.house("days 8;" + TWO + "kind k weighs 1;kind m weighs 1;kind n weighs 1;turn k on weekday=0;turn m on weekday=0;", 4);
        Edges.is("m", Edges.block(1, "a b"), 2);
        Edges.laid("m", -1, 0, -1, 1);
        Edges.is("gone", Edges.x.end(1), false);
        Edges.is("a kind without turns", Edges.block(2, "a b"), 0);
        Edges.is("no such name", Edges.block(0, "a c"), -1);
        Edges.is("gone", Edges.x.end(1), false);
        Edges.is("no such kind", Edges.block(3, "a b"), -1);
        Edges.is("gone", Edges.x.end(1), false);
        Edges.is("no such kind", Edges.block(-1, "a b"), -1);
        for (int far : Edges.FAR) {
            Edges.is("kind " + far, Edges.block(far, "a"), -1);
        }
        Edges.laid("all stays", -1, 0, -1, 1);
    }

    // ---- even, cut

    private static void even() {
        Edges.sentence("III: EVEN: LEVEL of nobody is above AHEAD");
        Edges.house(daily(6, THREE), 6);
        Edges.is("two thirds", Edges.x.even(0, 480480, WHOLE), 1);
        Edges.is("less", Edges.x.even(0, 480479, WHOLE), 0);
        Edges.sentence("III: EVEN: nor below BEHIND less than 0");
        Edges.house(daily(6, THREE), 6);
        Edges.is("two thirds", Edges.x.even(0, WHOLE, 480480), 1);
        Edges.is("less", Edges.x.even(0, WHOLE, 480479), 0);
        Edges.sentence("III: EVEN: in turn, each as it is least");
        Edges.house(daily(5, TWO), 5);
        Edges.is("halves", Edges.x.even(0, 360360, 360360), 1);
        Edges.laid("halves", 0, 1, 0, 1, 0);
        Edges.sentence("III: EVEN: whose next must be soonest");
        Edges.house(daily(8, Edges.person('a', 1) + Edges.person('b', 3)), 8);
        Edges.is("quarters", Edges.x.even(0, 540540, 540540), 1);
        Edges.laid("b b, then both must by 3: the least", 1, 1, 0, 1, 1, 1, 0, 1);
        Edges.sentence("III: EVEN: (never: last)");
        Edges.house(daily(2, TWO), 2);
        Edges.is("nobody must within two turns", Edges.x.even(0, WHOLE, WHOLE), 1);
        Edges.laid("of like ones the least", 0, 0);
        Edges.house(daily(4, TWO), 4);
        Edges.is("b must by 2", Edges.x.even(0, WHOLE, WHOLE), 1);
        Edges.laid("then never", 0, 1, 0, 0);
        Edges.sentence("III: EVEN: the TURNS of the KIND, by their numbers");
        Edges.house("days 3;" + TWO + Edges.dailyKinds(2), 6);
        Edges.lay(1, 1, 1, 1, 1, 1);
        Edges.is("give", Edges.x.give(1, 0), true);
        Edges.is("l alone", Edges.x.even(1, 360360, 360360), 1);
        Edges.laid("l alone", 1, 0, 1, 1, 1, 0);
        Edges.sentence("III: EVEN: of one alone nothing ever lacks");
        Edges.house(daily(3, Edges.person('a', 9)), 3);
        Edges.is("0 and 0", Edges.x.even(0, 0, 0), 1);
        Edges.laid("alone", 0, 0, 0);
    }

    private static void evenCall() {
        Edges.sentence("III: EVEN by AHEAD and BEHIND (0 .. 720720 each)");
        Edges.house(daily(3, TWO), 3);
        Edges.is("the greatest", Edges.x.even(0, WHOLE, WHOLE), 1);
        Edges.is("the least", Edges.x.even(0, 0, 0), 0);
        Edges.is("ahead 720721", Edges.x.even(0, WHOLE + 1, WHOLE), -1);
        Edges.is("behind 720721", Edges.x.even(0, WHOLE, WHOLE + 1), -1);
        Edges.is("ahead -1", Edges.x.even(0, -1, WHOLE), -1);
        Edges.is("behind -1", Edges.x.even(0, WHOLE, -1), -1);
        for (int far : new int[] {Integer.MAX_VALUE, Integer.MIN_VALUE, -720720, 1441440}) {
            Edges.is("ahead " + far, Edges.x.even(0, far, WHOLE), -1);
            Edges.is("behind " + far, Edges.x.even(0, WHOLE, far), -1);
        }
        Edges.sentence("III: EVEN: only if all PERSONS MAY have all TURNS of the KIND");
        Edges.house("days 3;" + TWO + Edges.dailyKinds(2) + "never b k on day=2;", 6);
        Edges.is("not k", Edges.x.even(0, WHOLE, WHOLE), -1);
        Edges.is("but l", Edges.x.even(1, WHOLE, WHOLE), 1);
        for (char name = 'a'; name <= 'd'; name++) {
            Edges.house(daily(3, Edges.people(4)) + "never " + name + " k on day=1;", 3);
            Edges.is("not all but " + name, Edges.x.even(0, WHOLE, WHOLE), -1);
            Edges.is("nor least", Edges.x.least(0), -1);
        }
        Edges.house(daily(3, Edges.people(4)), 3);
        Edges.is("all four", Edges.x.even(0, WHOLE, WHOLE), 1);
        Edges.house("days 3;" + Edges.person('a', 1) + Edges.person('b', 1, 1, 1) + Edges.KIND + "turn k on day=1;turn k on day=1;", 2);
        Edges.is("on all days on which it is", Edges.x.even(0, WHOLE, WHOLE), 1);
        Edges.house("days 3;" + Edges.person('a', 1) + Edges.person('b', 1, 1, 199) + Edges.KIND + Edges.DAILY, 3);
        Edges.is("not the first", Edges.x.even(0, WHOLE, WHOLE), -1);
        Edges.house("days 3;" + Edges.person('a', 1) + Edges.person('b', 1, 0, 1) + Edges.KIND + Edges.DAILY, 3);
        Edges.is("not the last", Edges.x.even(0, WHOLE, WHOLE), -1);
        Edges.house(daily(3, TWO) + "never b k on day=3;", 3);
        Edges.is("a never behind the days", Edges.x.even(0, WHOLE, WHOLE), 1);
        Edges.sentence("22: 0, it can't be (all stays)");
        Edges.house(daily(3, TWO), 3);
        Edges.lay(1, 1, 0);
        Edges.is("give", Edges.x.give(2, 1), true);
        Edges.is("can't be", Edges.x.even(0, 360359, WHOLE), 0);
        Edges.counts("all stays", 1, 1, 0);
        Edges.serves("all stays", 1, 1, 1);
        Edges.sentence("22: NONE when something can't be (all stays)");
        Edges.house(daily(3, TWO), 3);
        Edges.lay(1, 1, 0);
        Edges.is("kind 1", Edges.x.even(1, WHOLE, WHOLE), -1);
        Edges.is("kind -1", Edges.x.even(-1, WHOLE, WHOLE), -1);
        for (int far : Edges.FAR) {
            Edges.is("kind " + far, Edges.x.even(far, WHOLE, WHOLE), -1);
        }
        Edges.is("ahead", Edges.x.even(0, -1, 0), -1);
        Edges.laid("all stays", 1, 1, 0);
        Edges.is("no cut", Edges.x.cut(0), -1);
        Edges.sentence("22: 1 without TURNS of the KIND");
        Edges.house(TWO + Edges.KIND, 0);
        Edges.is("0 and 0", Edges.x.even(0, 0, 0), 1);
    }

    private static void isCut(int turn, int persons) {
        Edges.is("cut's turn", Edges.x.cut(0), turn);
        Edges.is("cut's persons", Edges.x.cut(1), persons);
    }

    private static void cut() {
        Edges.sentence("III: CUT: nobody's next may be, on the first TURN or behind it");
        Edges.house(daily(3, TWO), 3);
        Edges.is("even", Edges.x.even(0, 360359, WHOLE), 0);
        isCut(0, 0);
        Edges.house(daily(4, Edges.person('a', 1) + Edges.person('b', 3)), 4);
        Edges.is("even", Edges.x.even(0, 180180, 360360), 0);
        isCut(1, 0);
        Edges.sentence("III: CUT: somebody's next was not had when it must have been");
        Edges.house(daily(6, THREE), 6);
        Edges.is("even", Edges.x.even(0, WHOLE, 240240), 0);
        isCut(1, 6);
        Edges.is("even", Edges.x.even(0, WHOLE, 240239), 0);
        isCut(0, 7);
        Edges.sentence("III: CUT: those PERSONS whose next, ahead of it, must be had by then (its own, too)");
        Edges.house(daily(6, Edges.person('a', 1) + Edges.person('b', 2) + Edges.person('c', 3)), 6);
        Edges.is("even", Edges.x.even(0, 360360, 240240), 0);
        isCut(2, 5);
        Edges.house(daily(4, Edges.person('a', 1) + Edges.person('b', 3)), 4);
        Edges.is("even", Edges.x.even(0, 180180, 180180), 0);
        isCut(1, 3);
        Edges.house("days 3;" + Edges.people(16) + "kind shift weighs 1;turn shift on all;", 3);
        Edges.is("all sixteen must", Edges.x.even(0, WHOLE, 45044), 0);
        isCut(0, 65535);
        Edges.is("ahead of the second all but one", Edges.x.even(0, WHOLE, 45045), 0);
        isCut(1, 65534);
        Edges.sentence("III: CUT: the TURN is told of the KIND, from 0 on");
        Edges.house("days 9;" + THREE + Edges.dailyKinds(2), 18);
        Edges.is("even", Edges.x.even(1, WHOLE, 240240), 0);
        isCut(1, 6);
        Edges.sentence("23: NONE without one");
        isCut(-1, -1);
        Edges.house(daily(3, TWO), 3);
        Edges.is("even", Edges.x.even(0, WHOLE, WHOLE), 1);
        isCut(-1, -1);
        Edges.is("even", Edges.x.even(5, WHOLE, WHOLE), -1);
        isCut(-1, -1);
        Edges.is("least", Edges.x.least(0), 360360);
        Edges.is("cycle", Edges.x.cycle(2), 360360);
        isCut(-1, -1);
        Edges.sentence("23: of the latest even() that was 0");
        Edges.house(daily(6, THREE), 6);
        Edges.is("even", Edges.x.even(0, WHOLE, 240240), 0);
        isCut(1, 6);
        Edges.is("then 1", Edges.x.even(0, WHOLE, WHOLE), 1);
        isCut(1, 6);
        Edges.is("then NONE", Edges.x.even(0, -1, 0), -1);
        isCut(1, 6);
        Edges.is("least", Edges.x.least(0), 480480);
        Edges.is("cycle", Edges.x.cycle(3), 480480);
        isCut(1, 6);
        Edges.is("then 0", Edges.x.even(0, 0, WHOLE), 0);
        isCut(0, 0);
        Edges.sentence("23: NONE for others");
        Edges.house(daily(6, THREE), 6);
        Edges.is("even", Edges.x.even(0, WHOLE, 240240), 0);
        Edges.is("2", Edges.x.cut(2), -1);
        Edges.is("-1", Edges.x.cut(-1), -1);
        for (int far : Edges.FAR) {
            Edges.is("what " + far, Edges.x.cut(far), -1);
        }
    }

    private static void leastAndCycle() {
        Edges.sentence("III: LEAST: the least number for both with which it can be");
        for (int persons = 1; persons <= 16; persons++) {
            Edges.house("days 33;" + Edges.people(persons) + "kind shift weighs 1;turn shift on all;", 33);
            int least = WHOLE - WHOLE / persons;
            Edges.is("of " + persons, Edges.x.least(0), least);
            Edges.is("with it", Edges.x.even(0, least, least), 1);
            Edges.is("with one less", Edges.x.even(0, least - 1, least - 1), least == 0 ? -1 : 0);
        }
        Edges.house(daily(1, Edges.person('a', 1) + Edges.person('b', 9)), 1);
        Edges.is("one turn", Edges.x.least(0), 72072);
        Edges.house(daily(4, Edges.person('a', 1) + Edges.person('b', 9)), 4);
        Edges.is("four", Edges.x.least(0), 288288);
        Edges.house(daily(5, Edges.person('a', 1) + Edges.person('b', 9)), 5);
        Edges.is("five", Edges.x.least(0), 360360);
        Edges.house(daily(200, Edges.person('a', 1) + Edges.person('b', 9)), 200);
        Edges.is("200", Edges.x.least(0), 360360);
        Edges.house(TWO + Edges.KIND, 0);
        Edges.is("without turns", Edges.x.least(0), 0);
        Edges.sentence("24: NONE as for even()");
        Edges.is("new", Edges.x.least(0), -1);
        Edges.house("days 3;" + TWO + Edges.dailyKinds(2) + "never b k on day=2;", 6);
        Edges.is("not all may", Edges.x.least(0), -1);
        Edges.is("all may", Edges.x.least(1), 360360);
        Edges.is("kind 2", Edges.x.least(2), -1);
        Edges.is("kind -1", Edges.x.least(-1), -1);
        for (int far : Edges.FAR) {
            Edges.is("kind " + far, Edges.x.least(far), -1);
        }
        Edges.is("nothing was laid", Edges.x.has(5), 6);
        Edges.house(Edges.KIND + Edges.DAILY, 28);
        Edges.is("nobody is there", Edges.x.least(0), -1);
        Edges.sentence("III: CYCLE of n TURNS (1 .. 48)");
        for (int part = 1; part <= 9; part += 4) {
            Edges.house(Edges.person('a', part), 0);
            for (int n = 1; n <= 48; n++) {
                Edges.is("cycle " + n, Edges.x.cycle(n), 0);
            }
        }
        int[] not = {0, 49, 50, 96, -1, -48, Integer.MAX_VALUE, Integer.MIN_VALUE};
        for (int n : not) {
            Edges.is("cycle " + n, Edges.x.cycle(n), -1);
        }
        Edges.sentence("III: CYCLE: n times each part must be whole times all parts together");
        Edges.house(Edges.people(16), 0);
        for (int n = 1; n <= 49; n++) {
            Edges.is("cycle " + n, Edges.x.cycle(n), n % 16 == 0 && n <= 48 ? 675675 : -1);
        }
        Edges.house(Edges.person('a', 2) + Edges.person('b', 4), 0);
        for (int n = 1; n <= 12; n++) {
            Edges.is("two and four, cycle " + n, Edges.x.cycle(n), n % 3 == 0 ? 240240 : -1);
        }
        Edges.house(Edges.person('a', 4) + Edges.person('b', 1) + Edges.person('c', 7), 0);
        Edges.is("all of twelve", Edges.x.cycle(12) > 0, true);
        Edges.is("a's alone", Edges.x.cycle(3), -1);
        Edges.is("6", Edges.x.cycle(6), -1);
        Edges.is("1", Edges.x.cycle(1), -1);
        Edges.sentence("III: CYCLE: all of whom MAY");
        Edges.house("days 2;" + Edges.person('a', 1, 0, 0) + Edges.person('b', 1, 150, 160) + Edges.KIND + Edges.DAILY
            + "never b k on all;", 2);
        Edges.is("cycle 2", Edges.x.cycle(2), 360360);
        Edges.is("least", Edges.x.least(0), -1);
        Edges.is("nothing was laid", Edges.x.has(5), 2);
        Edges.sentence("25: NONE when it can't be: nobody there");
        Edges.is("new", Edges.x.cycle(1), -1);
        Edges.house(Edges.KIND + Edges.DAILY, 28);
        Edges.is("cycle 1", Edges.x.cycle(1), -1);
        Edges.is("cycle 48", Edges.x.cycle(48), -1);
    }

    public static void main(String[] args) {
        set();
        give();
        step();
        lots();
        round();
        block();
        even();
        evenCall();
        cut();
        leastAndCycle();
        Edges.finish("RotaEdges");
    }
}
