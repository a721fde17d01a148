/** Term II and promises 8 to 16: each sentence about an edge of what is due, of levels and of bars by itself. */
public final class LevelEdges {
    private static final int WHOLE = 720720;
    private static final long NO_LEVEL = -1000000000000L;
    private static final String TWO = Edges.people(2);
    /** Turns: 0 k, day 0; 1 k and 2 m, day 1; 3 k, day 2. Due: 240240 to a, 480480 to b. */
    private static final String MIXED = "days 3;" + Edges.person('a', 1) + Edges.person('b', 2)
        + "kind k weighs 9;kind m weighs 0;turn k on all;turn m on day=1;";

    private LevelEdges() {
    }

    private static void mays(String what, int person, int... want) {
        for (int turn = 0; turn < want.length; turn++) {
            Edges.is(what + ": may " + person + " have turn " + turn, Edges.x.may(person, turn), want[turn]);
        }
    }

    private static void dues(String what, int person, int... want) {
        for (int turn = 0; turn < want.length; turn++) {
            Edges.is(what + ": due to " + person + " in turn " + turn, Edges.x.due(person, turn), want[turn]);
        }
    }

    private static void levels(int person, int kind, long... want) {
        for (int i = 0; i < want.length; i++) {
            Edges.is("level " + person + " of " + kind + " ahead of " + i, Edges.x.level(person, kind, i), want[i]);
        }
        Edges.is("no more levels", Edges.x.level(person, kind, want.length), NO_LEVEL);
    }

    private static void stretch(int person, int kind, int first, int last) {
        Edges.is("stretch of " + person + " in " + kind + " from", Edges.x.stretch(person, kind, true), first);
        Edges.is("stretch of " + person + " in " + kind + " to", Edges.x.stretch(person, kind, false), last);
    }

    private static void worst(long gap, int kind, int person) {
        Edges.is("worst", Edges.x.worst(0), gap);
        Edges.is("its kind", Edges.x.worst(1), kind);
        Edges.is("its person", Edges.x.worst(2), person);
    }

    // ---- who may, what is due

    private static void may() {
        Edges.sentence("II: MAY, if the DAY is one from .. to");
        Edges.house("days 6;" + Edges.person('a', 1, 2, 3) + Edges.person('b', 1, 4, 4) + Edges.person('c', 1, 0, 0)
            + Edges.person('d', 1, 5, 199) + Edges.KIND + Edges.DAILY, 6);
        mays("2 to 3", 0, 0, 0, 1, 1, 0, 0);
        mays("4 to 4", 1, 0, 0, 0, 0, 1, 0);
        mays("0 to 0", 2, 1, 0, 0, 0, 0, 0);
        mays("5 to 199", 3, 0, 0, 0, 0, 0, 1);
        Edges.house("days 200;" + Edges.person('a', 1, 199, 199) + Edges.person('b', 1, 0, 198) + Edges.KIND + Edges.DAILY, 200);
        Edges.is("the last day", Edges.x.may(0, 199), 1);
        Edges.is("the one ahead of it", Edges.x.may(0, 198), 0);
        Edges.is("the last day is behind", Edges.x.may(1, 199), 0);
        Edges.is("up to it", Edges.x.may(1, 198), 1);
        Edges.sentence("II: MAY, if no never of the PERSON and its KIND has a TEST that holds on it");
        Edges.house("days 3;" + TWO + Edges.dailyKinds(2) + "never a l on day=1;never a l on day=2;never b k on not all;", 6);
        mays("never a l", 0, 1, 1, 1, 0, 1, 0);
        mays("none that holds", 1, 1, 1, 1, 1, 1, 1);
        Edges.house("days 2;" + TWO + Edges.dailyKinds(2) + "never b k on all;never b l on all;", 4);
        mays("the other", 0, 1, 1, 1, 1);
        mays("of both", 1, 0, 0, 0, 0);
        Edges.sentence("9: NONE when there are none such");
        Edges.house(MIXED, 4);
        notThere(Edges.x.may(2, 0), Edges.x.may(-1, 0), Edges.x.may(0, 4), Edges.x.may(0, -1), Edges.x.may(-1, -1));
        for (int far : Edges.FAR) {
            notThere(Edges.x.may(far, 0), Edges.x.may(0, far), Edges.x.may(far, far));
        }
        Edges.house("days 3;" + TWO, 0);
        notThere(Edges.x.may(0, 0));
        Edges.house("days 3;" + Edges.KIND + Edges.DAILY, 3);
        notThere(Edges.x.may(0, 0));
    }

    private static void notThere(int... answers) {
        for (int answer : answers) {
            Edges.is("none such", answer, -1);
        }
    }

    private static void due() {
        Edges.sentence("II: DUE: 720720 times part / the parts of all who MAY, for 1 to 16 parts");
        for (int first = 1; first <= 9; first++) {
            Edges.house("days 1;" + Edges.person('a', first) + Edges.KIND + Edges.DAILY, 1);
            dues("alone with " + first, 0, WHOLE);
            for (int second = 1; second <= 9 && first + second <= 16; second++) {
                Edges.house("days 1;" + Edges.person('a', first) + Edges.person('b', second) + Edges.KIND + Edges.DAILY, 1);
                dues(first + " and " + second, 0, WHOLE * first / (first + second));
                dues(first + " and " + second, 1, WHOLE * second / (first + second));
            }
        }
        Edges.house("days 1;" + Edges.people(16) + "kind shift weighs 1;turn shift on all;", 1);
        dues("one of 16", 15, 45045);
        Edges.sentence("II: DUE: of those alone who MAY have this TURN");
        Edges.house("days 4;" + Edges.person('a', 1, 0, 1) + Edges.person('b', 2, 1, 2) + Edges.person('c', 3)
            + Edges.KIND + Edges.DAILY + "never c k on day=1;never c k on day=3;", 4);
        dues("a", 0, 180180, 240240, 0, 0);
        dues("b", 1, 0, 480480, 288288, 0);
        dues("c", 2, 540540, 0, 432432, 0);
        Edges.sentence("II: DUE: 0, if not among these, also if nobody is");
        Edges.house("days 2;" + TWO + Edges.KIND + Edges.DAILY + "never a k on all;never b k on day=1;", 2);
        dues("a", 0, 0, 0);
        dues("b", 1, WHOLE, 0);
        Edges.sentence("10: NONE when there are none such");
        Edges.house(MIXED, 4);
        notThere(Edges.x.due(2, 0), Edges.x.due(-1, 0), Edges.x.due(0, 4), Edges.x.due(0, -1), Edges.x.due(-1, -1));
        for (int far : Edges.FAR) {
            notThere(Edges.x.due(far, 0), Edges.x.due(0, far), Edges.x.due(far, far));
        }
    }

    // ---- levels

    private static void level() {
        Edges.sentence("II: LEVEL ahead of the i-th TURN of that KIND (i from 0 on; behind the last one, too)");
        Edges.house(MIXED, 4);
        Edges.lay(0, 1, 0, 1);
        levels(0, 0, 0, 480480, 240240, 0);
        levels(1, 0, 0, -480480, -240240, 0);
        levels(0, 1, 0, 480480);
        levels(1, 1, 0, -480480);
        Edges.sentence("II: LEVEL for all KINDS ahead of a TURN: over all TURNS ahead, each times its WEIGHT (0 .. 9)");
        Edges.house(MIXED, 4);
        Edges.lay(0, 1, 0, 1);
        levels(0, -1, 0, 4324320, 2162160, 2162160, 0);
        levels(1, -1, 0, -4324320, -2162160, -2162160, 0);
        Edges.sentence("II: LEVEL: 720720 for each TURN that counts for the PERSON, whoever serves it");
        Edges.house(MIXED, 4);
        Edges.lay(0, 0, 0, 0);
        Edges.is("give", Edges.x.give(0, 1) && Edges.x.give(1, 1) && Edges.x.give(2, 1), true);
        levels(0, 0, 0, 480480, 960960, 1441440);
        levels(1, 1, 0, -480480);
        Edges.sentence("II: LEVEL: less what was due, also of OPEN TURNS");
        Edges.house(MIXED, 4);
        levels(0, 0, 0, -240240, -480480, -720720);
        levels(1, -1, 0, -4324320, -8648640, -8648640, -12972960);
        Edges.sentence("II: LEVEL: also of one who MAY not have the TURN");
        Edges.house("days 2;" + TWO + Edges.KIND + Edges.DAILY + "never a k on day=0;", 2);
        Edges.lay(0, 1);
        levels(0, 0, 0, 720720, 360360);
        levels(1, 0, 0, -720720, -360360);
        Edges.sentence("II: LEVEL behind 200 TURNS of the greatest WEIGHT");
        Edges.house("days 200;" + Edges.people(16) + "kind shift weighs 9;turn shift on all;", 200);
        Edges.is("all of a", Edges.round(0, "a"), 200);
        Edges.is("a", Edges.x.level(0, -1, 200), 200L * 9 * (720720 - 45045));
        Edges.is("p", Edges.x.level(15, -1, 200), -200L * 9 * 45045);
        Edges.is("a, unweighted", Edges.x.level(0, 0, 200), 200L * (720720 - 45045));
        Edges.is("gap of a", Edges.x.gap(0, -1), 200L * 9 * (720720 - 45045));
        Edges.sentence("11: -10 to the 12 when there are none such");
        Edges.house(MIXED, 4);
        noLevels(Edges.x.level(0, 0, 4), Edges.x.level(0, 1, 2), Edges.x.level(0, -1, 5), Edges.x.level(0, 0, -1),
            Edges.x.level(0, -1, -1), Edges.x.level(2, 0, 0), Edges.x.level(-1, 0, 0), Edges.x.level(0, 2, 0),
            Edges.x.level(0, -2, 0), Edges.x.level(2, -1, 0));
        for (int far : Edges.FAR) {
            noLevels(Edges.x.level(far, 0, 0), Edges.x.level(0, far, 0), Edges.x.level(0, 0, far), Edges.x.level(0, -1, far));
        }
        Edges.house(TWO + "kind k weighs 1;", 0);
        levels(0, 0, 0);
        levels(0, -1, 0);
        Edges.house(TWO, 0);
        levels(1, -1, 0);
        noLevels(Edges.x.level(0, 0, 0));
        Edges.house("days 1;" + Edges.KIND + Edges.DAILY, 1);
        noLevels(Edges.x.level(0, 0, 0), Edges.x.level(0, -1, 0));
    }

    private static void noLevels(long... answers) {
        for (long answer : answers) {
            Edges.is("none such", answer, NO_LEVEL);
        }
    }

    private static void gap() {
        Edges.sentence("II: GAP: the LEVEL ahead of the first TURN, 0, too, and that behind the last");
        Edges.house("days 1;" + Edges.person('a', 1) + Edges.person('b', 2) + Edges.KIND + Edges.DAILY, 1);
        Edges.lay(0);
        Edges.is("from 0 up", Edges.x.gap(0, 0), 480480);
        Edges.is("from 0 down", Edges.x.gap(1, 0), 480480);
        Edges.house("days 3;" + TWO + Edges.KIND + Edges.DAILY, 3);
        Edges.lay(0, 0, 0);
        Edges.is("always above 0", Edges.x.gap(0, 0), 3 * 360360);
        Edges.is("always below 0", Edges.x.gap(1, 0), 3 * 360360);
        Edges.lay(0, 1, 1);
        Edges.is("up, and below 0 at last", Edges.x.gap(0, 0), 2 * 360360);
        Edges.sentence("II: GAP of all KINDS by WEIGHT");
        Edges.house(MIXED, 4);
        Edges.lay(0, 1, 0, 1);
        Edges.is("all", Edges.x.gap(0, -1), 4324320);
        Edges.is("k", Edges.x.gap(0, 0), 480480);
        Edges.is("m, which weighs 0", Edges.x.gap(0, 1), 480480);
        Edges.sentence("II: GAP: 0 without TURNS, or when nothing ever lacks");
        Edges.house(TWO + Edges.KIND, 0);
        Edges.is("no turns", Edges.x.gap(0, 0), 0);
        Edges.is("no turns of all", Edges.x.gap(1, -1), 0);
        Edges.house("days 5;" + Edges.person('a', 3) + Edges.KIND + Edges.DAILY, 5);
        Edges.lay(0, 0, 0, 0, 0);
        Edges.is("alone", Edges.x.gap(0, 0), 0);
        Edges.sentence("12: NONE when there are none such");
        Edges.house(MIXED, 4);
        long[] none = {Edges.x.gap(2, 0), Edges.x.gap(-1, 0), Edges.x.gap(0, 2), Edges.x.gap(0, -2), Edges.x.gap(2, -1),
            Edges.x.gap(-1, -1)};
        for (long answer : none) {
            Edges.is("none such", answer, -1);
        }
        for (int far : Edges.FAR) {
            Edges.is("person " + far, Edges.x.gap(far, 0), -1);
            Edges.is("person " + far + " of all", Edges.x.gap(far, -1), -1);
            Edges.is("kind " + far, Edges.x.gap(0, far), -1);
        }
    }

    private static void stretch() {
        Edges.sentence("II: STRETCH: the least b");
        Edges.house("days 4;" + TWO + Edges.KIND + Edges.DAILY, 4);
        Edges.lay(0, 1, 0, 1);
        stretch(0, 0, 0, 0);
        stretch(1, 0, 0, 0);
        Edges.lay(1, 0, 0, 1);
        stretch(0, 0, 1, 2);
        Edges.lay(0, 0, 1, 1);
        stretch(0, 0, 0, 1);
        stretch(1, 0, 0, 1);
        Edges.sentence("II: STRETCH: then the greatest a");
        Edges.house("days 6;" + TWO + Edges.KIND + Edges.DAILY, 6);
        Edges.lay(0, 1, 0, 0, 1, 1);
        stretch(0, 0, 2, 3);
        stretch(1, 0, 2, 3);
        Edges.lay(0, 1, 0, 1, 0, 0);
        stretch(0, 0, 4, 5);
        Edges.sentence("II: STRETCH: TURNS a <= b, also one alone, the first or the last");
        Edges.house("days 3;" + Edges.people(3) + Edges.KIND + Edges.DAILY, 3);
        Edges.lay(0, -1, -1);
        stretch(0, 0, 0, 0);
        stretch(1, 0, 0, 2);
        Edges.lay(-1, -1, 0);
        stretch(0, 0, 0, 1);
        Edges.house("days 1;" + TWO + Edges.KIND + Edges.DAILY, 1);
        stretch(0, 0, 0, 0);
        Edges.sentence("II: STRETCH: by numbers, of the KIND");
        Edges.house("days 3;" + TWO + Edges.dailyKinds(2), 6);
        Edges.lay(1, 0, 0, 1, 0, 1);
        stretch(0, 0, 2, 4);
        stretch(0, 1, 3, 5);
        stretch(1, 1, 3, 5);
        Edges.lay(1, 0, 0, 1, 1, 0);
        stretch(0, 0, 0, 0);
        stretch(0, 1, 1, 1);
        stretch(1, 1, 1, 1);
        Edges.sentence("II: STRETCH of all KINDS: TURNS that weigh 0 neither end nor lengthen it");
        Edges.house("days 3;" + TWO + "kind m weighs 0;kind k weighs 9;turn m on all;turn k on day=1;", 4);
        Edges.lay(0, 0, 0, 0);
        stretch(0, -1, 2, 2);
        stretch(1, -1, 2, 2);
        Edges.sentence("II: STRETCH: none if the GAP is 0");
        Edges.house("days 3;" + Edges.person('a', 1) + "kind k weighs 0;kind m weighs 1;turn k on all;", 3);
        Edges.lay(0, 0, 0);
        stretch(0, 0, -1, -1);
        Edges.lay(-1, 0, 0);
        stretch(0, -1, -1, -1);
        stretch(0, 0, 0, 0);
        stretch(0, 1, -1, -1);
        Edges.sentence("13: NONE when there are none such");
        Edges.house(MIXED, 4);
        stretch(2, 0, -1, -1);
        stretch(-1, 0, -1, -1);
        stretch(0, 2, -1, -1);
        stretch(0, -2, -1, -1);
        for (int far : Edges.FAR) {
            stretch(far, 0, -1, -1);
            stretch(far, -1, -1, -1);
            stretch(0, far, -1, -1);
        }
    }

    private static void worst() {
        Edges.sentence("II: WORST: of single KINDS, not by WEIGHT");
        Edges.house("days 3;" + TWO + "kind k weighs 9;kind m weighs 0;turn k on day=0;turn m on all;", 4);
        Edges.lay(0, 0, 0, 0);
        worst(3 * 360360, 1, 0);
        Edges.lay(0, 1, 0, 1);
        worst(360360, 0, 0);
        Edges.sentence("II: WORST: of like ones the least KIND, then the least PERSON");
        Edges.house("days 1;" + Edges.people(3) + Edges.dailyKinds(3), 3);
        Edges.lay(2, 1, 0);
        worst(480480, 0, 2);
        Edges.lay(-1, 1, 0);
        worst(480480, 1, 1);
        Edges.lay(-1, -1, -1);
        worst(240240, 0, 0);
        Edges.lay(-1, -1, 0);
        worst(480480, 2, 0);
        Edges.sentence("II: WORST of nothing that lacks is 0");
        Edges.house("days 2;" + TWO + "kind k weighs 1;", 0);
        worst(0, 0, 0);
        Edges.house("days 2;" + Edges.person('a', 1) + Edges.dailyKinds(2), 4);
        Edges.lay(0, 0, 0, 0);
        worst(0, 0, 0);
        Edges.sentence("14: NONE without PERSONS or KINDS");
        worst(-1, -1, -1);
        Edges.house(TWO, 0);
        worst(-1, -1, -1);
        Edges.house(Edges.KIND + Edges.DAILY, 28);
        worst(-1, -1, -1);
        Edges.house(MIXED, 4);
        worst(3 * 480480, 0, 1);
        Edges.house("", 0);
        worst(-1, -1, -1);
        Edges.sentence("14: NONE for others");
        Edges.house(MIXED, 4);
        Edges.is("worst 3", Edges.x.worst(3), -1);
        Edges.is("worst -1", Edges.x.worst(-1), -1);
        for (int far : Edges.FAR) {
            Edges.is("worst " + far, Edges.x.worst(far), -1);
        }
    }

    // ---- bars

    private static void barsOfOne() {
        Edges.sentence("II: BAR 1 it is OPEN");
        Edges.house("days 2;" + Edges.person('a', 1, 0, 0) + Edges.person('b', 1) + Edges.KIND + Edges.DAILY, 2);
        Edges.bars("open", 1, 1);
        Edges.lay(0, -1);
        Edges.bars("one open", 0, 1);
        Edges.is("open again", Edges.x.set(0, -1), true);
        Edges.bars("both", 1, 1);
        Edges.sentence("II: BAR 2 who serves it MAY not");
        Edges.house("days 3;" + Edges.person('a', 1, 1, 1) + Edges.person('b', 1) + Edges.KIND + Edges.DAILY
            + "never b k on day=1;", 3);
        Edges.lay(0, 0, 0);
        Edges.bars("a is there on day 1 alone", 2, 0, 2);
        Edges.lay(1, 1, 1);
        Edges.bars("b never on day 1", 0, 2, 0);
        Edges.is("give", Edges.x.give(1, 0) && Edges.x.give(2, 0), true);
        Edges.bars("who serves, not for whom it counts", 0, 0, 2);
        Edges.sentence("II: BAR 3 serves another TURN that DAY");
        Edges.house("days 2;" + TWO + Edges.KIND + Edges.times(2, Edges.DAILY) + "kind m weighs 1;turn m on all;", 6);
        Edges.lay(0, 0, 1, 0, 1, -1);
        Edges.bars("both turns, not the day behind", 3, 3, 0, 0, 0, 1);
        Edges.is("give", Edges.x.give(1, 1), true);
        Edges.bars("by who serves", 0, 3, 3, 0, 0, 1);
        Edges.lay(0, 0, 0, 1, 0, 1);
        Edges.bars("three", 3, 3, 3, 3, 0, 3);
    }

    private static void rests() {
        Edges.sentence("II: BAR 4: their DAYS not more than so many apart");
        Edges.house("days 33;" + Edges.people(3) + Edges.KIND + Edges.DAILY + "rest k k 1;", 33);
        Edges.lay(0, 0, 1, 0, 2, 2, 2);
        Edges.bars("one day", 0, 4, 0, 0, 0, 4, 4);
        Edges.house("days 33;" + Edges.people(3) + Edges.KIND + Edges.DAILY + "rest k k 2;", 33);
        Edges.lay(0, 1, 0, 2, 1, 0, 2, 1, 1);
        Edges.bars("two days", 0, 0, 4, 0, 0, 0, 0, 0, 4);
        Edges.house("days 33;" + Edges.people(3) + Edges.KIND + Edges.DAILY + "rest k k 30;", 33);
        Edges.is("set", Edges.x.set(0, 0) && Edges.x.set(30, 0), true);
        Edges.is("30 apart", Edges.x.turn(30, 4), 4);
        Edges.is("set", Edges.x.set(30, -1) && Edges.x.set(31, 0), true);
        Edges.is("31 apart", Edges.x.turn(31, 4), 0);
        Edges.is("the earlier one has none", Edges.x.turn(0, 4), 0);
        Edges.sentence("II: BAR 4: of a KIND after which rest asks more days ahead of this one's");
        Edges.house("days 4;" + TWO + Edges.dailyKinds(2) + "rest k l 2;", 8);
        Edges.lay(0, 1, -1, 0, -1, 0, -1, 0);
        Edges.bars("l behind k", 0, 0, 1, 4, 1, 4, 1, 0);
        Edges.lay(1, 0, 0, -1, 0, -1, 0, -1);
        Edges.bars("k behind l, k behind k", 0, 0, 0, 1, 0, 1, 0, 1);
        Edges.lay(1, 0, -1, 0, -1, 0, -1, 1);
        Edges.bars("l behind l", 0, 0, 1, 0, 1, 0, 1, 0);
        Edges.sentence("II: BAR 4: of the last of six KINDS, too");
        Edges.house("days 4;" + TWO + Edges.dailyKinds(4) + "kind u weighs 1;kind v weighs 1;turn u on day<2;turn v on day>1;"
            + "rest u v 1;rest v v 1;", 20);
        Edges.is("u, then v", Edges.x.set(9, 0) && Edges.x.set(14, 0) && Edges.x.turn(14, 4) == 4, true);
        Edges.is("v, then v", Edges.x.set(19, 0) && Edges.x.turn(19, 4) == 4, true);
        Edges.is("of others", Edges.x.set(19, 1) && Edges.x.turn(19, 4) == 0, true);
        Edges.is("which of its kind", Edges.x.turn(19, 5), 1);
        Edges.is("levels of the last kind", Edges.x.level(0, 5, 2), 0);
        Edges.is("no more", Edges.x.level(0, 5, 3), NO_LEVEL);
        Edges.sentence("II: BAR 4: the DAY not the same, and only ahead of it");
        Edges.house("days 3;" + TWO + Edges.dailyKinds(2) + "rest k l 5;rest l k 5;", 6);
        Edges.lay(0, 1, -1, -1, 0, 1);
        Edges.bars("a k again, a l again", 0, 0, 1, 1, 0, 0);
        Edges.lay(0, 1, -1, -1, 1, 0);
        Edges.bars("each the other one", 0, 0, 1, 1, 4, 4);
        Edges.lay(0, -1, -1, 1, 1, 0);
        Edges.bars("of two days", 0, 1, 1, 0, 4, 4);
        Edges.sentence("II: BAR 4: served, not counted");
        Edges.house("days 2;" + TWO + Edges.KIND + Edges.DAILY + "rest k k 1;", 2);
        Edges.lay(0, 0);
        Edges.is("give", Edges.x.give(0, 1), true);
        Edges.bars("b served it", 0, 0);
        Edges.is("give", Edges.x.give(1, 1), true);
        Edges.bars("b served both", 0, 4);
        Edges.sentence("II: BAR 4: of several rests the longest");
        Edges.house("days 4;" + TWO + Edges.KIND + Edges.DAILY + "rest k k 1;rest k k 3;rest k k 2;", 4);
        Edges.lay(0, 1, 1, 0);
        Edges.bars("3", 0, 0, 4, 4);
    }

    private static void pairs() {
        Edges.sentence("II: BAR 5 is apart from one who serves a TURN that DAY");
        String[] told = {"apart a b;", "apart b a;"};
        for (String apart : told) {
            Edges.house("days 2;" + Edges.people(3) + Edges.dailyKinds(2) + apart, 4);
            Edges.lay(0, 1, 0, 2);
            Edges.bars("a and b", 5, 5, 0, 0);
            Edges.lay(0, 2, 1, 2);
            Edges.bars("on unlike days", 0, 0, 0, 0);
            Edges.lay(0, 2, 0, 1);
            Edges.is("give", Edges.x.give(1, 1) && Edges.x.give(3, 2), true);
            Edges.bars("by who serves", 5, 5, 0, 0);
            Edges.lay(0, -1, -1, 1);
            Edges.bars("an open one is nobody", 0, 1, 1, 0);
        }
        Edges.sentence("II: BAR 5: not of those who are apart from the same one");
        Edges.house("days 1;" + Edges.people(3) + Edges.dailyKinds(2) + "apart a b;apart b c;", 2);
        Edges.lay(0, 2);
        Edges.bars("a and c", 0, 0);
        Edges.lay(1, 2);
        Edges.bars("b and c", 5, 5);
        Edges.sentence("II: BAR 6 is beside one who serves none that DAY");
        String[] other = {"beside a b;", "beside b a;"};
        for (String beside : other) {
            Edges.house("days 2;" + Edges.people(3) + Edges.dailyKinds(2) + beside, 4);
            Edges.lay(0, 1, 0, 2);
            Edges.bars("a without b", 0, 0, 6, 0);
            Edges.lay(2, 1, 2, 2);
            Edges.bars("b without a", 0, 6, 3, 3);
            Edges.lay(0, 0, 0, 1);
            Edges.is("give", Edges.x.give(1, 1) && Edges.x.give(3, 2), true);
            Edges.bars("by who serves", 0, 0, 6, 0);
        }
        Edges.house("days 1;" + Edges.people(3) + Edges.dailyKinds(2) + "beside a b;beside a c;", 2);
        Edges.lay(0, 1);
        Edges.bars("beside two, one is there", 6, 0);
        Edges.sentence("II: BAR 6: and there are two TURNS or more that DAY");
        Edges.house("days 2;" + TWO + Edges.KIND + "turn k on all;turn k on day=1;beside a b;", 3);
        Edges.lay(0, 0, -1);
        Edges.bars("one, then two, of which one is open", 0, 6, 1);
        Edges.lay(1, 1, 0);
        Edges.bars("both", 0, 0, 0);
    }

    private static void leastBar() {
        Edges.sentence("II: the least of these is its BAR (0 none)");
        Edges.house("days 2;" + Edges.people(4) + Edges.KIND + "turn k on all;turn k on day=1;turn k on day=1;"
            + "never a k on day=1;rest k k 1;apart b c;apart a c;beside b d;", 4);
        Edges.lay(0, 0, 0, 2);
        Edges.bars("2 ahead of 3, 4, 5", 0, 2, 2, 5);
        Edges.lay(1, 1, 1, 2);
        Edges.bars("3 ahead of 4, 5, 6", 0, 3, 3, 5);
        Edges.lay(1, 1, 2, -1);
        Edges.bars("4 ahead of 5, 6; an open one has 1", 0, 4, 5, 1);
        Edges.lay(3, 1, 2, 0);
        Edges.bars("5 ahead of 6", 0, 5, 5, 2);
        Edges.lay(3, 1, -1, -1);
        Edges.bars("6", 0, 6, 1, 1);
        Edges.lay(0, 1, 3, -1);
        Edges.bars("d rests", 0, 0, 0, 1);
    }

    private static void barCalls() {
        Edges.sentence("15: how many TURNS have a BAR, from none to all");
        Edges.is("no turns", Edges.x.bars(), 0);
        Edges.house("days 3;" + TWO + Edges.KIND + Edges.DAILY, 3);
        for (int turn = 0; turn < 3; turn++) {
            Edges.is("bars", Edges.x.bars(), 3 - turn);
            Edges.is("set", Edges.x.set(turn, 1), true);
        }
        Edges.is("none", Edges.x.bars(), 0);
        Edges.house("days 200;" + Edges.KIND + Edges.DAILY, 200);
        Edges.is("200", Edges.x.bars(), 200);
        Edges.sentence("16: the first TURN that has a BAR, also the very first or the last");
        Edges.house("days 3;" + TWO + Edges.KIND + Edges.DAILY + "beside a b;", 3);
        for (int turn = 0; turn < 3; turn++) {
            Edges.is("first", Edges.x.first(), turn);
            Edges.is("set", Edges.x.set(turn, 1), true);
        }
        Edges.is("turn 1", Edges.x.set(1, -1) && Edges.x.set(2, -1) && Edges.x.first() == 1, true);
        Edges.house("days 200;" + TWO + Edges.KIND + Edges.DAILY + "never b k on day=199;", 200);
        Edges.is("all of b", Edges.round(0, "b"), 200);
        Edges.is("the last of 200", Edges.x.first(), 199);
        Edges.sentence("16: NONE when it is LAWFUL: no TURN has one");
        Edges.is("no turns", Edges.x.first(), -1);
        Edges.house("days 3;" + TWO + Edges.KIND + Edges.DAILY, 3);
        Edges.lay(1, 0, 1);
        Edges.is("lawful", Edges.x.first(), -1);
        Edges.is("no bars", Edges.x.bars(), 0);
    }

    private static void turnCall() {
        Edges.sentence("8: NONE when there is none such");
        Edges.is("of none", Edges.x.turn(0, 0), -1);
        Edges.house(MIXED, 4);
        for (int what = 0; what < 6; what++) {
            Edges.is("turn 4, " + what, Edges.x.turn(4, what), -1);
            Edges.is("turn -1, " + what, Edges.x.turn(-1, what), -1);
            for (int far : Edges.FAR) {
                Edges.is("turn " + far + ", " + what, Edges.x.turn(far, what), -1);
            }
        }
        Edges.is("the last one is there", Edges.x.turn(3, 0), 2);
        Edges.sentence("8: NONE for others");
        Edges.house(MIXED, 4);
        Edges.lay(0, 0, 1, 1);
        for (int turn = 0; turn < 4; turn++) {
            Edges.is("6", Edges.x.turn(turn, 6), -1);
            Edges.is("-1", Edges.x.turn(turn, -1), -1);
            for (int far : Edges.FAR) {
                Edges.is("what " + far, Edges.x.turn(turn, far), -1);
            }
        }
        Edges.sentence("8: NONE of OPEN ones: for whom it counts and who serves it");
        Edges.house(MIXED, 4);
        int[] want = {1, 1, -1, -1, 1, 0};
        for (int what = 0; what < 6; what++) {
            Edges.is("turn 2, " + what, Edges.x.turn(2, what), want[what]);
        }
        Edges.sentence("8: which of its KIND, from 0 on");
        Edges.house(MIXED, 4);
        int[] ranks = {0, 1, 0, 2};
        for (int turn = 0; turn < 4; turn++) {
            Edges.is("turn " + turn, Edges.x.turn(turn, 5), ranks[turn]);
        }
    }

    public static void main(String[] args) {
        may();
        due();
        level();
        gap();
        stretch();
        worst();
        barsOfOne();
        rests();
        pairs();
        leastBar();
        barCalls();
        turnCall();
        Edges.finish("LevelEdges");
    }
}
