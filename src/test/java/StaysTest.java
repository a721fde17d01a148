import java.util.ArrayList;
import java.util.EnumMap;
import java.util.EnumSet;
import java.util.List;
import java.util.Map;
import java.util.Set;

/**
 * "All stays", and what no promise says that a call changes: every call, done and refused, is made in three states; each
 * part of the state that is not the call's own must be afterwards as it was.
 */
public final class StaysTest {
    private static final String HOUSE = "days 9;" + Edges.people(8) + "kind k weighs 1;kind m weighs 2;turn k on all;"
        + "turn m on day=4;never a m on all;";
    private static final int PERSONS = 8;
    private static final int TURNS = 10;
    private static final int KIND_TURNS = 9;
    private static final int PICTURE = 2 * TURNS + 3;
    private static final int A = 0;
    private static final int B = 1;
    private static final int C = 2;
    private static final int D = 3;
    private static final int H = 7;
    private static final int WHOLE = 720720;
    private static final long FAR_BOUND = Long.MAX_VALUE;
    /** What stands on the tape ahead of each call: a row of persons. */
    private static final String ROW = "h a";

    private enum Part { HOUSE, FAULT, COUNTS, SERVES, CUT, ENDED, OCTETS, TAPE, TAPE_GOES }

    private enum State { NEW, PLAIN, FULL }

    private interface Call {
        long on(EvenRota x);
    }

    private static final Set<Part> NOTHING = EnumSet.noneOf(Part.class);
    private static final Set<Part> LAID = EnumSet.of(Part.COUNTS, Part.SERVES);
    private static final Set<Part> READ = EnumSet.of(Part.TAPE, Part.TAPE_GOES);
    private static final Set<Part> READ_AND_LAID = EnumSet.of(Part.TAPE, Part.TAPE_GOES, Part.COUNTS, Part.SERVES);

    private static int wrong = 0;
    private static int cases = 0;

    private StaysTest() {
    }

    private static void must(boolean holds, String what) {
        if (!holds) {
            wrong++;
            System.out.println(what);
        }
    }

    /** FULL has all that can be kept: an image, a cut, an end of swaps, a fault, turns given and one OPEN. */
    private static EvenRota inState(State state) {
        EvenRota x = new EvenRota();
        if (state != State.NEW) {
            must(Feeding.house(x, HOUSE) == TURNS, "the house is sound");
        }
        if (state == State.FULL) {
            Feeding.put(x, "b a");
            must(x.round(0) == KIND_TURNS && x.image() == PICTURE, "an image");
            must(x.swaps(1) >= 0 && x.ended() == 0, "an end");
            must(x.even(0, WHOLE, 90090) == 0 && x.cut(0) == 1 && x.cut(1) == 254, "a cut");
            int[] laid = {H, H, H, H, H, C, H, H, B, -1};
            for (int turn = 0; turn < TURNS; turn++) {
                x.set(turn, laid[turn]);
            }
            must(x.give(5, D), "a turn given");
            must(Feeding.house(x, "days 0;") == -1 && x.fault(0) == 2 && x.fault(1) == 5, "a fault");
        }
        Feeding.put(x, ROW);
        return x;
    }

    private static Map<Part, String> look(EvenRota x) {
        Map<Part, List<Integer>> seen = new EnumMap<>(Part.class);
        for (Part part : EnumSet.range(Part.HOUSE, Part.OCTETS)) {
            seen.put(part, new ArrayList<>());
        }
        for (int what = 0; what < 5; what++) {
            seen.get(Part.HOUSE).add(x.has(what));
        }
        for (int person = 0; person < PERSONS; person++) {
            seen.get(Part.HOUSE).add(x.letter(false, person, 0));
            seen.get(Part.HOUSE).add(x.due(person, 5));
        }
        for (int turn = 0; turn < TURNS; turn++) {
            for (int what : new int[] {0, 1, 5}) {
                seen.get(Part.HOUSE).add(x.turn(turn, what));
            }
            seen.get(Part.COUNTS).add(x.turn(turn, 2));
            seen.get(Part.SERVES).add(x.turn(turn, 3));
        }
        for (int what = 0; what < 2; what++) {
            seen.get(Part.FAULT).add(x.fault(what));
            seen.get(Part.CUT).add(x.cut(what));
        }
        seen.get(Part.ENDED).add(x.ended());
        for (int k = 0; k <= PICTURE; k++) {
            seen.get(Part.OCTETS).add(x.octet(k));
        }
        Map<Part, String> told = new EnumMap<>(Part.class);
        seen.forEach((part, numbers) -> told.put(part, numbers.toString()));
        return told;
    }

    private static void checkTape(EvenRota x, State state, Set<Part> changed, String where) {
        if (changed.contains(Part.TAPE_GOES)) {
            must(!x.end(1), where + "the tape goes");
        }
        if (!changed.contains(Part.TAPE)) {
            must(!x.end(ROW.length() + 1) && x.end(ROW.length()), where + "the tape is as long as it was");
            must(x.round(0) == (state == State.NEW ? -1 : KIND_TURNS), where + "the tape tells a row");
            must(state == State.NEW || (x.turn(0, 2) == H && x.turn(1, 2) == A), where + "the tape tells the row that it told");
        }
    }

    /** The answer is that in the state FULL; in the others the call may be refused or not. */
    private static void check(String name, Set<Part> changed, long answer, Call call) {
        cases++;
        for (State state : State.values()) {
            String where = name + ", state " + state + ": ";
            EvenRota x = inState(state);
            Map<Part, String> before = look(x);
            long got = call.on(x);
            must(state != State.FULL || got == answer, where + "answered " + got + ", due is " + answer);
            Map<Part, String> after = look(x);
            for (Part part : before.keySet()) {
                must(changed.contains(part) || after.get(part).equals(before.get(part)),
                    where + part + " was " + before.get(part) + ", is " + after.get(part));
            }
            checkTape(x, state, changed, where);
        }
    }

    private static void asks(String name, long answer, Call call) {
        check(name, NOTHING, answer, call);
    }

    private static long truth(boolean answer) {
        return answer ? 1 : 0;
    }

    private static long feedAll(EvenRota x) {
        long latest = 0;
        for (int n = 0; n < 45; n++) {
            latest = x.feed(0x61616161, 0, 0, 0, 0);
        }
        return latest;
    }

    private static int read(EvenRota x, String text, Call call) {
        Feeding.put(x, text);
        return (int) call.on(x);
    }

    private static void textCalls() {
        Set<Part> tape = EnumSet.of(Part.TAPE);
        check("2: feed", tape, 23, x -> x.feed(1, 2, 3, 4, 5));
        check("2: feed, refused", tape, -1, StaysTest::feedAll);
        check("3: end", tape, 1, x -> truth(x.end(2)));
        asks("3: end of all there is", 1, x -> truth(x.end(3)));
        asks("3: end, not so many", 0, x -> truth(x.end(4)));
        asks("3: end, below 0", 0, x -> truth(x.end(-1)));
        check("4: house", EnumSet.complementOf(EnumSet.of(Part.OCTETS)), 0, x -> Feeding.house(x, "days 3;"));
        check("4: house with a fault", EnumSet.of(Part.FAULT, Part.TAPE, Part.TAPE_GOES), -1, EvenRota::house);
        check("4: house with a fault at its end", EnumSet.of(Part.FAULT, Part.TAPE, Part.TAPE_GOES), -1,
            x -> Feeding.house(x, "days 7;person z part 1 from 0 to 0;kind y weighs 1;turn y on all;days"));
        check("4: house with too many turns", EnumSet.of(Part.FAULT, Part.TAPE, Part.TAPE_GOES), -1,
            x -> Feeding.house(x, "days 101;person z part 1 from 0 to 0;kind y weighs 1;turn y on all;turn y on all;"));
        for (int what = -1; what < 3; what++) {
            int asked = what;
            asks("5: fault " + what, new int[] {-1, 2, 5, -1}[what + 1], x -> x.fault(asked));
        }
        for (int what = -1; what < 7; what++) {
            int asked = what;
            asks("6: has " + what, new int[] {-1, 9, 8, 2, 10, 8, 1, -1}[what + 1], x -> x.has(asked));
        }
        asks("7: letter", 3, x -> x.letter(false, C, 0));
        asks("7: letter, refused", -1, x -> x.letter(true, 2, 0));
        for (int what = -1; what < 7; what++) {
            int asked = what;
            asks("8: turn " + what, new int[] {-1, 4, 1, C, D, 0, 0, -1}[what + 1], x -> x.turn(5, asked));
        }
        asks("9: may", 0, x -> x.may(A, 5));
        asks("10: due", 102960, x -> x.due(B, 5));
    }

    private static void evenCalls() {
        asks("11: level", 3 * (WHOLE - 90090), x -> x.level(H, 0, 3));
        asks("11: level of all", 7 * WHOLE - 9 * 90090 - 2 * 102960, x -> x.level(H, -1, 10));
        asks("11: level, refused", -1000000000000L, x -> x.level(H, 0, 10));
        asks("12: gap", 9 * 90090, x -> x.gap(A, 0));
        asks("12: gap, refused", -1, x -> x.gap(8, 0));
        asks("13: stretch", 0, x -> x.stretch(H, 0, true));
        asks("13: stretch, the last", 7, x -> x.stretch(H, 0, false));
        asks("13: stretch, none", -1, x -> x.stretch(A, 1, false));
        asks("14: worst", 7 * (WHOLE - 90090), x -> x.worst(0));
        asks("14: worst, KIND", 0, x -> x.worst(1));
        asks("14: worst, PERSON", H, x -> x.worst(2));
        asks("14: worst, refused", -1, x -> x.worst(3));
        asks("15: bars", 1, EvenRota::bars);
        asks("16: first", 9, EvenRota::first);
    }

    private static void layingCalls() {
        check("17: set", LAID, 1, x -> truth(x.set(0, B)));
        check("17: set OPEN", LAID, 1, x -> truth(x.set(5, -1)));
        asks("17: set, no such turn", 0, x -> truth(x.set(TURNS, B)));
        asks("17: set, no such person", 0, x -> truth(x.set(0, PERSONS)));
        check("18: give", EnumSet.of(Part.SERVES), 1, x -> truth(x.give(0, B)));
        asks("18: give of an OPEN one", 0, x -> truth(x.give(9, B)));
        asks("18: give to nobody", 0, x -> truth(x.give(0, -1)));
        check("19: step", LAID, TURNS, x -> x.step(-1));
        check("19: step by lot", LAID, TURNS, x -> x.step(77));
        asks("19: step, refused", -2, x -> x.step(-2));
        check("20: round", READ_AND_LAID, KIND_TURNS, x -> x.round(0));
        check("20: round, no such kind", READ, -1, x -> x.round(2));
        check("20: round, no such person", READ, -1, x -> read(x, "h z", y -> y.round(0)));
        check("20: round, no row", READ, -1, x -> read(x, "h 1", y -> y.round(0)));
        check("21: block", READ_AND_LAID, KIND_TURNS, x -> x.block(0));
        check("21: block, no such kind", READ, -1, x -> x.block(2));
        check("21: block, no such person", READ, -1, x -> read(x, "h z", y -> y.block(0)));
        check("21: block, no row", READ, -1, x -> read(x, "", y -> y.block(0)));
    }

    private static void evenerCalls() {
        check("22: even", LAID, 1, x -> x.even(0, WHOLE, WHOLE));
        check("22: even, it can't be", EnumSet.of(Part.CUT), 0, x -> x.even(0, WHOLE, 90090));
        check("22: even, it can't be at the first", EnumSet.of(Part.CUT), 0, x -> x.even(0, 0, 0));
        check("22: even, it can't be at a later one", EnumSet.of(Part.CUT), 0, x -> x.even(0, WHOLE, 5 * 90090));
        asks("22: even, not all MAY", -1, x -> x.even(1, WHOLE, WHOLE));
        asks("22: even, ahead", -1, x -> x.even(0, WHOLE + 1, 0));
        asks("22: even, behind", -1, x -> x.even(0, 0, -1));
        asks("22: even, no such kind", -1, x -> x.even(2, 0, 0));
        asks("23: cut", 1, x -> x.cut(0));
        asks("23: cut, refused", -1, x -> x.cut(2));
        asks("24: least", 7 * 90090, x -> x.least(0));
        asks("24: least, refused", -1, x -> x.least(1));
        asks("25: cycle", 7 * 90090, x -> x.cycle(8));
        asks("25: cycle, refused", -1, x -> x.cycle(9));
        check("26: swaps", EnumSet.of(Part.COUNTS, Part.SERVES, Part.ENDED), 2, x -> x.swaps(1000));
        asks("26: swaps, too few", -1, x -> x.swaps(0));
        asks("26: swaps, too many", -1, x -> x.swaps(1001));
        asks("27: ended", 0, EvenRota::ended);
    }

    private static void careCalls() {
        check("28: ill", LAID, 1, x -> x.ill(H, 0, 0, FAR_BOUND));
        asks("28: ill, no turns", 0, x -> x.ill(A, 0, 8, 0));
        asks("28: ill, no such days", -1, x -> x.ill(H, 1, 0, FAR_BOUND));
        asks("28: ill, no bound", -1, x -> x.ill(H, 0, 0, -1));
        asks("28: ill, seven turns", -1, x -> x.ill(H, 0, 7, FAR_BOUND));
        asks("28: ill, no way", -2, x -> x.ill(H, 0, 0, 0));
        asks("28: ill, no way for a turn that was given", -2, x -> x.ill(D, 4, 4, 0));
        asks("28: ill, 2000 ways", -3, x -> x.ill(H, 0, 3, 0));
        asks("29: could", 126, x -> x.could(5));
        asks("29: could, refused", -1, x -> x.could(TURNS));
        asks("30: behind", A, x -> x.behind(9));
        asks("30: behind, refused", -1, x -> x.behind(-1));
        asks("31: owes", 1, x -> x.owes(C, D));
        asks("31: owes, refused", -1000000000, x -> x.owes(C, PERSONS));
        asks("32: meet", 1, x -> x.meet(D, H));
        asks("32: meet, refused", -1, x -> x.meet(D, D));
        asks("33: meets, most", 1, x -> x.meets(true));
        asks("33: meets, least", 0, x -> x.meets(false));
        check("34: image", EnumSet.of(Part.OCTETS), PICTURE, EvenRota::image);
        asks("35: octet", TURNS, x -> x.octet(0));
        asks("35: octet, refused", -1, x -> x.octet(PICTURE));
        int[] bytes = new int[PICTURE - 2];
        bytes[0] = TURNS;
        String image = Edges.closed(bytes);
        check("36: on", READ_AND_LAID, 1, x -> read(x, image, y -> truth(y.on())));
        check("36: on, no image", READ, 0, x -> truth(x.on()));
        check("36: on, a wrong last byte", READ, 0,
            x -> read(x, image.substring(0, PICTURE - 1) + (char) 9, y -> truth(y.on())));
        bytes[PICTURE - 3] = PERSONS;
        String stranger = Edges.closed(bytes);
        check("36: on, a stranger in the last turn", READ, 0, x -> read(x, stranger, y -> truth(y.on())));
    }

    public static void main(String[] args) {
        textCalls();
        evenCalls();
        layingCalls();
        evenerCalls();
        careCalls();
        System.out.println("StaysTest: " + cases + " calls, " + wrong + " wrong");
        System.exit(wrong == 0 ? 0 : 1);
    }
}
