/** Each promise by itself, with answers worked out by hand from the document. */
public final class PromiseTest {
    private static final String PEOPLE3 = "person a part 1 from 0 to 199;person b part 1 from 0 to 199;"
        + "person c part 1 from 0 to 199;";
    private static final String KIND = "kind k weighs 1;";
    private static final String DAILY = "turn k on all;";
    /** Turns: day 0: 0 k; day 1: 1 k, 2 m, 3 m; day 2: 4 k, 5 m, which nobody may have. */
    private static final String MIXED = "days 3; person a part 1 from 0 to 199; person b part 2 from 0 to 1;"
        + "kind k weighs 2; kind m weighs 3; turn k on all; turn m on day = 1; turn m on day > 0; never a m on day = 2;";
    /** Turns: on each of the days 0 to 2 a k and an m. */
    private static final String BARRED = "days 3;person a part 1 from 0 to 199;person b part 1 from 0 to 199;"
        + "person c part 1 from 0 to 199;person d part 1 from 0 to 199;kind k weighs 1;kind m weighs 1;"
        + "turn k on all;turn m on all;rest k m 1;apart a b;beside c d;never d m on day=0;";

    private static int wrong = 0;
    private static int checks = 0;
    private static int promise = 0;
    private static EvenRota x = new EvenRota();

    private PromiseTest() {
    }

    private static void is(String what, long got, long want) {
        checks++;
        if (got != want) {
            wrong++;
            System.out.println("promise " + promise + ": " + what + " answered " + got + ", due is " + want);
        }
    }

    private static void is(String what, boolean got, boolean want) {
        is(what, got ? 1 : 0, want ? 1 : 0);
    }

    private static void make(int of, String text, int turns) {
        promise = of;
        x = new EvenRota();
        is("house of " + text, Feeding.house(x, text), turns);
    }

    private static void servers(String what, int... want) {
        for (int turn = 0; turn < want.length; turn++) {
            is(what + ", turn " + turn + " counts for", x.turn(turn, 2), want[turn]);
            is(what + ", turn " + turn + " is served by", x.turn(turn, 3), want[turn]);
        }
    }

    private static void lay(int... persons) {
        for (int turn = 0; turn < persons.length; turn++) {
            is("set " + turn, x.set(turn, persons[turn]), true);
        }
    }

    private static int round(int kind, String row) {
        Feeding.put(x, row);
        return x.round(kind);
    }

    private static int block(int kind, String row) {
        Feeding.put(x, row);
        return x.block(kind);
    }

    private static String many(int times, String text) {
        return text.repeat(times);
    }

    private static void newObject() {
        promise = 1;
        x = new EvenRota();
        int[] has = {28, 0, 0, 0, 0, 0};
        for (int what = 0; what < has.length; what++) {
            is("has " + what, x.has(what), has[what]);
        }
        is("fault", x.fault(0), 0);
        is("its place", x.fault(1), -1);
        is("ended", x.ended(), -1);
        is("cut", x.cut(0), -1);
        is("cut persons", x.cut(1), -1);
        is("octet", x.octet(0), -1);
        is("nothing on the tape", x.end(1), false);
        is("none there", EvenRota.NONE, -1);
    }

    private static void feed() {
        promise = 2;
        x = new EvenRota();
        is("first twenty", x.feed(0x64617973, 0x20333b20, 0x20202020, 0x20202020, 0x20202020), 20);
        is("house", x.house(), 0);
        is("the highest byte is first: days 3", x.has(0), 3);
        for (int n = 1; n <= 45; n++) {
            is("feed " + n, x.feed(0x20202020, 0x20202020, 0x20202020, 0x20202020, 0x20202020), 20 * n);
        }
        is("a 46th", x.feed(0x20202020, 0x20202020, 0x20202020, 0x20202020, 0x20202020), -1);
        is("it did nothing", x.end(901), false);
        is("all 900 are there", x.end(900), true);
        is("end 881", x.end(881), true);
        is("901 would be too many", x.feed(0, 0, 0, 0, 0), -1);
        is("end 880", x.end(880), true);
        is("900 are not", x.feed(0x20202020, 0x20202020, 0x20202020, 0x20202020, 0x2020203b), 900);
        is("house", x.house(), -1);
        is("the last byte is the lowest of the last number", x.fault(1), 899);
    }

    private static void end() {
        promise = 3;
        x = new EvenRota();
        is("end 0 of nothing", x.end(0), true);
        is("end -1", x.end(-1), false);
        is("end 1 of nothing", x.end(1), false);
        x.feed(0x64617973, 0x20353b20, 0x20202020, 0x20202020, 0x20202021);
        is("end 21", x.end(21), false);
        is("end 20", x.end(20), true);
        is("end lowest", x.end(Integer.MIN_VALUE), false);
        is("end 7", x.end(7), true);
        is("end 8, gone", x.end(8), false);
        is("house", x.house(), 0);
        is("days 5", x.has(0), 5);
        is("the tape went", x.end(1), false);
    }

    private static void house() {
        make(4, MIXED, 6);
        is("the tape went", x.end(1), false);
        int[] days = {0, 1, 1, 1, 2, 2};
        int[] kinds = {0, 0, 1, 1, 0, 1};
        for (int turn = 0; turn < 6; turn++) {
            is("day of " + turn, x.turn(turn, 0), days[turn]);
            is("kind of " + turn, x.turn(turn, 1), kinds[turn]);
        }
        x.step(-1);
        x.swaps(3);
        x.even(0, 0, 0);
        is("a wrong one", Feeding.house(x, "days 5; x"), -1);
        is("all stays: days", x.has(0), 3);
        is("all stays: turns", x.has(3), 6);
        is("all stays: who", x.turn(0, 2), 1);
        is("all stays: ended", x.ended() >= 0, true);
        is("the tape went with a fault", x.end(1), false);
        is("an empty one", Feeding.house(x, ""), 0);
        is("28 days again", x.has(0), 28);
        is("no persons", x.has(1), 0);
        is("no ended", x.ended(), -1);
        make(4, "days 4;" + PEOPLE3 + KIND + DAILY, 4);
        x.step(-1);
        is("it can't be", x.even(0, 0, 0), 0);
        is("a cut", x.cut(0), 0);
        is("the same again", Feeding.house(x, "days 4;" + PEOPLE3 + KIND + DAILY), 4);
        is("all open", x.has(5), 4);
        is("no cut", x.cut(0), -1);
        is("no cut persons", x.cut(1), -1);
        make(4, "days 3;" + KIND + many(60, DAILY), 180);
        make(4, "days 100;" + PEOPLE3 + "kind m weighs 1;" + KIND + DAILY + "turn m on all;", 200);
        is("the last of k", x.turn(199, 5), 99);
        is("the last of m", x.turn(198, 5), 99);
        is("all of k", round(1, "a b"), 100);
        is("the last", x.turn(199, 2), 1);
        is("level behind the last", x.level(2, 1, 100), -24024000);
        make(4, " \n days\n9 ;days 2;" + PEOPLE3 + KIND + "turn k on all ; \n", 2);
    }

    /** On how many of the days 0 to 27 a test holds. */
    private static void holds(String test, int days) {
        x = new EvenRota();
        is(test, Feeding.house(x, KIND + "turn k on " + test + ";"), days);
    }

    private static void tests() {
        promise = 4;
        x = new EvenRota();
        holds("all", 28);
        holds("not all", 0);
        holds("day<3", 3);
        holds("day > 20", 7);
        holds("day = 5 or day = 6", 2);
        holds("week = 1", 7);
        holds("weekday = 6", 4);
        holds("all or all and not all", 28);
        holds("[all or all] and not all", 0);
        holds("not all or all", 28);
        holds("not [all or all]", 0);
        holds("not day < 3 and day < 5", 2);
        holds("day - 1 - 1 = 0", 1);
        holds("day - (1 - 1) = 0", 1);
        holds("2 + 3 * day = 8", 1);
        holds("(2 + 3) * day = 10", 1);
        holds("day / 7 * 7 = day", 4);
        holds("day * 7 / 7 = day", 28);
        holds("7 / 2 = 3", 28);
        holds("(0 - 7) / 2 = 0 - 4", 28);
        holds("7 / (0 - 2) = 0 - 4", 28);
        holds("(0 - 7) % 2 = 1", 28);
        holds("7 % (0 - 2) = 0 - 1", 28);
        holds("(0 - 7) % (0 - 2) = 0 - 1", 28);
        holds("5 / 0 = 0 and 5 % 0 = 0", 28);
        holds("day / 0 > 0", 0);
        holds("9999 * 9999 = 9998 * 9999 + 9999", 28);
        holds("9999 * 9999 * 9999 = 9999 * 9999 * 9998", 28);
        holds("9999 * 9999 * 9999 - 9999 * 9999 * 9999 = 0", 28);
        holds("9999 * 9999 * 11 - 1 < 9999 * 9999 * 11", 28);
        holds("9999 * 9999 * 11 + 1 = 9999 * 9999 * 11", 28);
        holds("0 - 9999 * 9999 * 11 - 1 = 0 - 9999 * 9999 * 11", 28);
        holds("(0 - 9999) * 9999 * 11 = 0 - 1000 * 1000 * 1000", 28);
        holds("9999 * 9999 * 11 = 1000 * 1000 * 1000", 28);
        holds("0007 = 7", 28);
        holds("((((((1)))))) = 1", 28);
        holds("[[[[[[all]]]]]]", 28);
        holds("not not not not not not all", 28);
        holds("not not not not not all", 0);
        holds("[not all] or [(1) = 1 and not not all]", 28);
    }

    private static void fault(String text, int fault, int place) {
        x = new EvenRota();
        is("house of '" + text + "'", Feeding.house(x, text), fault == 0 ? x.has(3) : -1);
        is("fault of '" + text + "'", x.fault(0), fault);
        is("place in '" + text + "'", x.fault(1), place);
    }

    private static void faults() {
        promise = 5;
        x = new EvenRota();
        is("ahead of any", x.fault(0), 0);
        is("no place ahead of any", x.fault(1), -1);
        fault("x;", 1, 0);
        fault(";", 1, 0);
        fault("days 3;;", 1, 7);
        fault("Days 3;", 1, 0);
        fault("days 3", 1, 6);
        fault("days 3 \n", 1, 8);
        fault("day 3;", 1, 0);
        fault("days3;", 1, 4);
        fault("days 3days 4;", 1, 6);
        fault("days;", 1, 4);
        fault("days\t3;", 1, 4);
        fault("days -3;", 1, 5);
        fault("days 00003;", 1, 9);
        fault("days 0003;", 0, -1);
        fault("days 0;", 2, 5);
        fault("days 200;", 0, -1);
        fault("days 201;", 2, 5);
        fault("days 9999;", 2, 5);
        fault("days 12345;", 1, 9);
        fault("days 0x;", 2, 5);
        fault("person weekday part", 1, 7);
        fault("person weekdays part", 1, 13);
        fault("person abcdefg", 1, 13);
        fault("person abcdef part 1 from 0 to 0;", 0, -1);
        fault("person a", 1, 8);
        fault("person a par", 1, 9);
        fault("person a partt 1", 1, 9);
        fault("person a1", 1, 8);
        fault("person 1", 1, 7);
        fault("person a part 0 from", 2, 14);
        fault("person a part 10 from", 2, 14);
        fault("person a part 1 from 200 to", 2, 21);
        fault("person a part 1 from 5 to 4;", 2, 26);
        fault("person a part 1 from 5 to 200;", 2, 26);
        fault("person a part 9 from 5 to 5;person b part 8 from 0 to 1;", 2, 42);
        fault("person a part 9 from 5 to 5;person b part 7 from 0 to 1;", 0, -1);
        fault("person a part 9 from 5 to 5;person b part 7 from 0 to 1;person c part 1 from", 2, 70);
        fault("person a part 1 from 5 to 5;person a part 1 from 0 to 1;", 3, 35);
        fault("person a part 1 from 5 to 5;kind a weighs 1;", 3, 33);
        fault("kind a weighs 1;person a part", 3, 23);
        fault("kind k weighs 10;", 2, 14);
        fault("kind k weighs 9;kind m weighs 0;", 0, -1);
        fault("kind k weighs 1;kind k weighs 1;", 3, 21);
        fault("kind k weigh 1;", 1, 7);
        fault("turn k on all;", 3, 5);
        fault(KIND + "turn k all;", 1, 23);
        fault(KIND + "turn k on;", 1, 25);
        fault(KIND + "turn k on day;", 1, 29);
        fault(KIND + "turn k on all<1;", 1, 29);
        fault(KIND + "turn k on day<;", 1, 30);
        fault(KIND + "turn k on day<1<2;", 1, 31);
        fault(KIND + "turn k on (day<1);", 1, 30);
        fault(KIND + "turn k on [day+1];", 1, 32);
        fault(KIND + "turn k on 12345<1;", 1, 30);
        fault(KIND + "turn k on day<1 or;", 1, 34);
        fault(KIND + "turn k on day<1 k;", 1, 32);
        fault(KIND + "turn k on abcdefg<1;", 1, 26);
        fault(KIND + "turn k on day<1 12345;", 1, 32);
        fault(KIND + "turn days on all;", 1, 21);
        fault(KIND + "never k k on all;", 3, 22);
        fault(PEOPLE3 + "never a b on all;", 3, 98);
        fault(PEOPLE3 + KIND + "rest a k 1;", 3, 111);
        fault(PEOPLE3 + KIND + "rest k a 1;", 3, 113);
        fault(PEOPLE3 + KIND + "rest k k 0;", 2, 115);
        fault(PEOPLE3 + KIND + "rest k k 31;", 2, 115);
        fault(PEOPLE3 + KIND + "rest k k 30;", 0, -1);
        fault(PEOPLE3 + "apart a a;", 3, 98);
        fault(PEOPLE3 + "beside a a;", 3, 99);
        fault(PEOPLE3 + "apart a d;", 3, 98);
        fault(PEOPLE3 + "beside a b c;", 1, 101);
    }

    private static void faultsOfSize() {
        promise = 5;
        fault(KIND + "turn k on not not not not not not not all;", 4, 50);
        fault(KIND + "turn k on [[[(((day)))<1]]];", 0, -1);
        fault(KIND + "turn k on [[[((((day))))<1]]];", 4, 32);
        fault(KIND + "turn k on not [not [not [[all]]]];", 4, 41);
        fault(KIND + "turn k on not not not not not not day < (1);", 4, 56);
        fault(KIND + "turn k on [not not not not not all] and not not not not not not all;", 0, -1);
        StringBuilder crowd = new StringBuilder();
        for (int n = 0; n < 16; n++) {
            crowd.append("person ").append((char) ('a' + n)).append(" part 1 from 0 to 0;");
        }
        fault(crowd.toString(), 0, -1);
        is("sixteen", x.has(1), 16);
        fault(crowd + "person 5;", 5, crowd.length());
        StringBuilder kinds = new StringBuilder();
        for (int n = 0; n < 6; n++) {
            kinds.append("kind ").append((char) ('a' + n)).append(" weighs 1;");
        }
        fault(kinds.toString(), 0, -1);
        fault(kinds + " kind", 5, kinds.length() + 1);
        String pair = "person a part 1 from 0 to 9;person b part 1 from 0 to 9;kind k weighs 0;";
        String others = many(15, "apart a b;") + many(15, "beside b a;") + many(15, "rest k k 1;")
            + many(15, "turn k on 1=2;");
        fault(pair + others, 0, -1);
        fault(pair + others + "days 3; days 4;", 0, -1);
        fault(pair + others + "never x;", 5, pair.length() + others.length());
        fault(pair + others + "apart a b;", 5, pair.length() + others.length());
        fault("days 100;" + KIND + many(2, DAILY), 0, -1);
        is("200 turns", x.has(3), 200);
        fault("days 200;" + KIND + DAILY + "turn k on day = 7; ", 6, 58);
        fault("days 200;" + KIND + DAILY + "turn k on day = 7; x", 1, 58);
        fault("days 200;" + KIND + DAILY + "turn k on day = 7; days 199; ", 0, -1);
        fault(many(900, ";"), 1, 0);
        fault(KIND + "turn k on " + many(437, "1+"), 1, 900);
        fault(KIND + "turn k on " + many(436, "1+") + "1<", 1, 900);
        fault(KIND + "turn k on " + many(435, "1+") + "0>9;", 0, -1);
        fault(many(900, " "), 0, -1);
        is("no such", x.fault(2), -1);
        is("no such", x.fault(-1), -1);
    }

    private static void has() {
        make(6, MIXED, 6);
        int[] want = {3, 2, 2, 6, 3, 6};
        for (int what = 0; what < 6; what++) {
            is("has " + what, x.has(what), want[what]);
        }
        x.set(2, 1);
        is("one less is open", x.has(5), 5);
        is("has 6", x.has(6), -1);
        is("has -1", x.has(-1), -1);
    }

    private static void letter() {
        make(7, "person azb part 1 from 0 to 0;kind sixmax weighs 0;person q part 1 from 0 to 0;", 0);
        int[] azb = {1, 26, 2, 0, 0, 0};
        int[] sixmax = {19, 9, 24, 13, 1, 24};
        for (int k = 0; k < 6; k++) {
            is("letter " + k + " of azb", x.letter(false, 0, k), azb[k]);
            is("letter " + k + " of sixmax", x.letter(true, 0, k), sixmax[k]);
        }
        is("q", x.letter(false, 1, 0), 17);
        is("behind q", x.letter(false, 1, 1), 0);
        is("house", Feeding.house(x, "person zz part 1 from 0 to 0;kind aza weighs 0;person a part 1 from 0 to 0;"), 0);
        is("z", x.letter(false, 0, 0), 26);
        is("z again", x.letter(false, 0, 1), 26);
        is("behind zz", x.letter(false, 0, 2), 0);
        is("k 6", x.letter(false, 0, 6), -1);
        is("k -1", x.letter(true, 0, -1), -1);
        is("person 2", x.letter(false, 2, 0), -1);
        is("kind 1", x.letter(true, 1, 0), -1);
        is("person -1", x.letter(false, -1, 0), -1);
    }

    private static void turn() {
        make(8, MIXED, 6);
        is("open: counts", x.turn(1, 2), -1);
        is("open: serves", x.turn(1, 3), -1);
        is("open: bar", x.turn(1, 4), 1);
        x.set(1, 1);
        x.give(1, 0);
        int[] want = {1, 0, 1, 0, 0, 1};
        for (int what = 0; what < 6; what++) {
            is("turn 1, " + what, x.turn(1, what), want[what]);
        }
        int[] ranks = {0, 1, 0, 1, 2, 2};
        for (int turn = 0; turn < 6; turn++) {
            is("which of its kind " + turn, x.turn(turn, 5), ranks[turn]);
        }
        is("what 6", x.turn(1, 6), -1);
        is("what -1", x.turn(1, -1), -1);
        is("turn 6", x.turn(6, 0), -1);
        is("turn -1", x.turn(-1, 0), -1);
    }

    private static void mayAndDue() {
        make(9, MIXED, 6);
        int[][] may = {{1, 1, 1, 1, 1, 0}, {1, 1, 1, 1, 0, 0}};
        int[][] due = {{240240, 240240, 240240, 240240, 720720, 0}, {480480, 480480, 480480, 480480, 0, 0}};
        for (int person = 0; person < 2; person++) {
            for (int turn = 0; turn < 6; turn++) {
                promise = 9;
                is("may " + person + " " + turn, x.may(person, turn), may[person][turn]);
                promise = 10;
                is("due " + person + " " + turn, x.due(person, turn), due[person][turn]);
            }
        }
        int[][] none = {{2, 0}, {-1, 0}, {0, 6}, {0, -1}, {Integer.MAX_VALUE, Integer.MIN_VALUE}};
        for (int[] pair : none) {
            promise = 9;
            is("may, none such", x.may(pair[0], pair[1]), -1);
            promise = 10;
            is("due, none such", x.due(pair[0], pair[1]), -1);
        }
        promise = 9;
        Feeding.house(x, "days 6;person a part 3 from 2 to 4;" + KIND + DAILY + "never a k on day = 3;");
        int[] from = {0, 0, 1, 0, 1, 0};
        for (int turn = 0; turn < 6; turn++) {
            is("may on day " + turn, x.may(0, turn), from[turn]);
        }
        promise = 10;
        is("all of it", x.due(0, 2), 720720);
    }

    private static void levels() {
        make(11, MIXED, 6);
        x.set(0, 0);
        long[] aOfK = {0, 480480, 240240, -480480};
        long[] bOfK = {0, -480480, -960960, -960960};
        long[] aOfAll = {0, 960960, 480480, -240240, -960960, -2402400, -2402400};
        for (int i = 0; i < 4; i++) {
            is("level 0 0 " + i, x.level(0, 0, i), aOfK[i]);
            is("level 1 0 " + i, x.level(1, 0, i), bOfK[i]);
        }
        for (int i = 0; i < 7; i++) {
            is("level 0 of all " + i, x.level(0, -1, i), aOfAll[i]);
        }
        is("by whom it counts, not who serves", x.give(0, 1), true);
        is("level of a", x.level(0, 0, 1), 480480);
        is("level of b", x.level(1, 0, 1), -480480);
        long none = -1000000000000L;
        is("i 4", x.level(0, 0, 4), none);
        is("i -1", x.level(0, 0, -1), none);
        is("i 7 of all", x.level(0, -1, 7), none);
        is("kind 2", x.level(0, 2, 0), none);
        is("kind -2", x.level(0, -2, 0), none);
        is("person 2", x.level(2, 0, 0), none);
        is("person -1", x.level(-1, 0, 0), none);
        promise = 12;
        is("gap of a", x.gap(0, 0), 960960);
        is("gap of b", x.gap(1, 0), 960960);
        is("gap of a in m", x.gap(0, 1), 480480);
        is("gap of a in all", x.gap(0, -1), 3363360);
        is("gap, kind 2", x.gap(0, 2), -1);
        is("gap, kind -2", x.gap(0, -2), -1);
        is("gap, person 2", x.gap(2, 0), -1);
        is("gap, person -1", x.gap(-1, -1), -1);
        promise = 13;
        is("stretch of a from", x.stretch(0, 0, true), 1);
        is("stretch of a to", x.stretch(0, 0, false), 4);
        is("stretch of b from", x.stretch(1, 0, true), 0);
        is("stretch of b to", x.stretch(1, 0, false), 1);
        is("stretch of b in m from", x.stretch(1, 1, true), 2);
        is("stretch of b in m to", x.stretch(1, 1, false), 3);
        is("stretch of a in all from", x.stretch(0, -1, true), 1);
        is("stretch of a in all to", x.stretch(0, -1, false), 4);
        is("stretch, kind 2", x.stretch(0, 2, true), -1);
        is("stretch, person 2", x.stretch(2, 0, true), -1);
        is("stretch, person -1", x.stretch(-1, 0, true), -1);
        promise = 14;
        is("worst", x.worst(0), 960960);
        is("worst kind, of like ones the least", x.worst(1), 0);
        is("worst person, of like ones the least", x.worst(2), 0);
        is("worst 3", x.worst(3), -1);
        is("worst -1", x.worst(-1), -1);
    }

    private static void evenMore() {
        make(13, "days 3;person a part 1 from 0 to 199;kind k weighs 0;kind m weighs 0;" + DAILY, 3);
        lay(0, 0, 0);
        is("no gap, no stretch", x.stretch(0, 0, true), -1);
        is("weight 0: none for all", x.stretch(0, -1, false), -1);
        is("no turns, none", x.stretch(0, 1, true), -1);
        promise = 12;
        is("gap 0", x.gap(0, 0), 0);
        is("gap without turns", x.gap(0, 1), 0);
        promise = 11;
        is("level without turns", x.level(0, 1, 0), 0);
        is("no first turn", x.level(0, 1, 1), -1000000000000L);
        promise = 14;
        is("worst 0", x.worst(0), 0);
        is("of kind", x.worst(1), 0);
        make(14, "person a part 1 from 0 to 199;", 0);
        is("without kinds", x.worst(0), -1);
        make(14, KIND + DAILY, 28);
        is("without persons", x.worst(0), -1);
        is("without persons, kind", x.worst(1), -1);
        make(14, "days 4;" + PEOPLE3 + KIND + "kind m weighs 1;" + DAILY + "turn m on day < 2;", 6);
        lay(0, 1, 1, 1, 2, 0);
        is("worst of m: b has both", x.worst(0), 960960);
        is("kind", x.worst(1), 1);
        is("person", x.worst(2), 1);
        make(13, "days 6;person a part 1 from 0 to 199;person b part 1 from 0 to 199;" + KIND + DAILY, 6);
        lay(0, 1, 0, 1, 0, 1);
        is("the least b", x.stretch(0, 0, false), 0);
        is("the greatest a", x.stretch(0, 0, true), 0);
        lay(1, 1, 0, 0, 0, 1);
        is("from -2 to 1 halves: last", x.stretch(0, 0, false), 4);
        is("from -2 to 1 halves: first", x.stretch(0, 0, true), 2);
        lay(0, 0, 1, 0, 0, 0);
        is("up to 4 halves: last", x.stretch(0, 0, false), 5);
        is("up to 4 halves: first", x.stretch(0, 0, true), 0);
    }

    private static void barRow(String what, int... want) {
        for (int turn = 0; turn < want.length; turn++) {
            is(what + ": bar of " + turn, x.turn(turn, 4), want[turn]);
        }
    }

    private static void bars() {
        make(15, BARRED, 6);
        is("all open", x.bars(), 6);
        promise = 16;
        is("the first", x.first(), 0);
        promise = 8;
        lay(3, 3, 2, 3, 0, -1);
        barRow("never, twice, rest, open", 3, 2, 0, 4, 0, 1);
        promise = 15;
        is("bars", x.bars(), 4);
        promise = 16;
        is("first", x.first(), 0);
        promise = 8;
        lay(0, 1, 2, 0, 1, 0);
        barRow("apart, beside, rest", 5, 5, 6, 4, 5, 5);
        lay(0, 2, 1, 0, 2, 3);
        barRow("beside; rest ahead of apart", 0, 6, 5, 4, 0, 0);
        lay(2, 0, 0, 2, 1, 3);
        barRow("rest after k alone", 6, 0, 0, 4, 0, 6);
        lay(0, 2, 3, 1, 2, 0);
        barRow("two days are enough", 0, 6, 6, 0, 6, 0);
        x.give(5, 1);
        barRow("by who serves", 0, 6, 6, 0, 6, 0);
        promise = 15;
        is("bars", x.bars(), 3);
        promise = 16;
        is("first", x.first(), 1);
        make(16, "days 2;" + PEOPLE3 + KIND + DAILY + "beside a b;", 2);
        lay(0, 1);
        is("one turn a day: beside bars nothing", x.first(), -1);
        promise = 15;
        is("lawful", x.bars(), 0);
        make(8, "days 1;" + PEOPLE3 + KIND + DAILY + DAILY + "beside a b;", 2);
        x.set(0, 0);
        barRow("an open turn is a turn that day", 6, 1);
        make(8, "days 7;" + PEOPLE3 + KIND + DAILY + "rest k k 1;rest k k 3;rest k k 2;", 7);
        lay(0, 1, 2, 0, 1, 2, 1);
        barRow("the longest rest asked", 0, 0, 0, 4, 4, 4, 4);
        lay(0, 1, 2, -1, 0, 1, 2);
        barRow("four days apart", 0, 0, 0, 1, 0, 0, 0);
    }

    private static void setAndGive() {
        make(17, MIXED, 6);
        is("set", x.set(5, 1), true);
        is("counts", x.turn(5, 2), 1);
        is("serves", x.turn(5, 3), 1);
        is("bar: may not", x.turn(5, 4), 2);
        is("set to none", x.set(5, -1), true);
        is("open", x.turn(5, 2), -1);
        is("turn 6", x.set(6, 0), false);
        is("turn -1", x.set(-1, 0), false);
        is("person 2", x.set(0, 2), false);
        is("person -2", x.set(0, -2), false);
        is("nothing done", x.has(5), 6);
        promise = 18;
        is("give an open one", x.give(0, 0), false);
        x.set(0, 1);
        is("give", x.give(0, 0), true);
        is("counts as before", x.turn(0, 2), 1);
        is("served by", x.turn(0, 3), 0);
        is("give to none", x.give(0, -1), false);
        is("person 2", x.give(0, 2), false);
        is("turn 6", x.give(6, 0), false);
        is("turn -1", x.give(-1, 0), false);
        is("still", x.turn(0, 3), 0);
        is("set anew", x.set(0, 0), true);
        is("both", x.turn(0, 2), 0);
    }

    private static void step() {
        make(19, "days 6;" + PEOPLE3 + KIND + DAILY, 6);
        is("least first", x.step(-1), 6);
        servers("by the least", 0, 1, 2, 0, 1, 2);
        is("seed 0", x.step(0), 6);
        servers("seed 0", 0, 1, 2, 1, 0, 2);
        is("seed 1", x.step(1), 6);
        servers("seed 1", 2, 0, 1, 0, 2, 1);
        is("seed 7", x.step(7), 6);
        servers("seed 7", 2, 1, 0, 1, 2, 0);
        is("greatest seed", x.step(2147483647), 6);
        servers("greatest seed", 2, 0, 1, 0, 2, 1);
        is("-2", x.step(-2), -2);
        is("lowest", x.step(Integer.MIN_VALUE), -2);
        servers("all stays", 2, 0, 1, 0, 2, 1);
        make(19, "days 4;person a part 1 from 0 to 199;person b part 3 from 0 to 199;" + KIND + DAILY, 4);
        is("by parts", x.step(-1), 4);
        servers("by parts", 1, 0, 1, 1);
        make(19, "days 3;person a part 1 from 0 to 199;person b part 1 from 0 to 1;" + KIND + DAILY + "rest k k 1;", 3);
        is("resting", x.step(-1), 3);
        servers("resting", 0, 1, 0);
        make(19, "days 3;person a part 1 from 0 to 199;" + KIND + DAILY + "rest k k 1;", 3);
        is("an open one", x.step(5), 2);
        servers("an open one", 0, -1, 0);
        make(19, "days 1;" + PEOPLE3 + KIND + many(3, DAILY) + "apart a b;", 3);
        is("apart", x.step(-1), 2);
        servers("apart", 0, 2, -1);
        make(19, MIXED, 6);
        is("levels of each kind", x.step(-1), 4);
        servers("levels of each kind", 1, 0, 1, -1, 0, -1);
    }

    private static void rounds() {
        make(20, MIXED, 6);
        is("round of k", round(0, "a b"), 3);
        servers("round of k", 0, 1, -1, -1, 0, -1);
        is("round of m", round(1, "\n b  b\na "), 3);
        servers("round of m", 0, 1, 1, 1, 0, 0);
        is("twenty names", round(0, many(20, "b ")), 3);
        servers("twenty names", 1, 1, 1, 1, 1, 0);
        String[] not = {"", " ", many(21, "a "), "a c", "a, b", "a 1", "a b;", "k", "a1", "days", "abcdefg", "A"};
        for (String row : not) {
            is("no row: " + row, round(0, row), -1);
            is("the tape went", x.end(1), false);
        }
        is("kind 2", round(2, "a"), -1);
        is("the tape went", x.end(1), false);
        is("kind -1", round(-1, "a"), -1);
        servers("all stays", 1, 1, 1, 1, 1, 0);
        Feeding.house(x, PEOPLE3 + KIND);
        is("a kind without turns", round(0, "a"), 0);
        make(21, "days 22;" + PEOPLE3 + KIND + "kind m weighs 1;turn k on weekday = 0 or weekday = 6;turn m on day = 8;", 8);
        is("block", block(0, "b c"), 7);
        servers("block", 1, 1, 2, -1, 2, 1, 1, 2);
        is("block of m", block(1, "a b c"), 1);
        servers("block of m", 1, 1, 2, 1, 2, 1, 1, 2);
        for (String row : not) {
            if (!row.equals("a c")) {
                is("no row: " + row, block(0, row), -1);
                is("the tape went", x.end(1), false);
            }
        }
        is("no such name", block(0, "a d"), -1);
        is("kind 2", block(2, "a"), -1);
        is("kind -1", block(-1, "a"), -1);
        servers("all stays", 1, 1, 2, 1, 2, 1, 1, 2);
    }

    private static void even() {
        String two = "person a part 1 from 0 to 199;person b part 2 from 0 to 199;";
        make(22, "days 6;" + two + KIND + "kind m weighs 1;" + DAILY, 6);
        x.set(0, 0);
        is("too even", x.even(0, 240239, 720720), 0);
        is("all stays", x.turn(0, 2), 0);
        is("all stays open", x.has(5), 5);
        is("it can be", x.even(0, 240240, 240240), 1);
        servers("even", 1, 0, 1, 1, 0, 1);
        is("no turns", x.even(1, 0, 0), 1);
        is("kind 2", x.even(2, 0, 0), -1);
        is("kind -1", x.even(-1, 0, 0), -1);
        is("ahead -1", x.even(0, -1, 0), -1);
        is("ahead 720721", x.even(0, 720721, 0), -1);
        is("behind -1", x.even(0, 0, -1), -1);
        is("behind 720721", x.even(0, 0, 720721), -1);
        promise = 23;
        is("cut of the first", x.cut(0), 0);
        is("nobody must, nobody may", x.cut(1), 0);
        is("nobody may be behind", x.even(0, 720720, 0), 0);
        is("cut at once", x.cut(0), 0);
        is("both must", x.cut(1), 3);
        is("b may be ahead, a must wait", x.even(0, 240240, 0), 0);
        is("cut", x.cut(0), 0);
        is("persons", x.cut(1), 3);
        is("it can be", x.even(0, 720720, 720720), 1);
        is("the cut of the latest that was 0", x.cut(1), 3);
        is("cut 2", x.cut(2), -1);
        is("cut -1", x.cut(-1), -1);
        promise = 24;
        is("least", x.least(0), 240240);
        is("least without turns", x.least(1), 0);
        is("least, kind 2", x.least(2), -1);
        is("least, kind -1", x.least(-1), -1);
        make(22, "days 3;" + two + KIND + DAILY + "never a k on day=2;", 3);
        is("not all may", x.even(0, 720720, 720720), -1);
        promise = 24;
        is("not all may", x.least(0), -1);
        make(23, "days 6;" + PEOPLE3 + KIND + DAILY, 6);
        is("no cut yet", x.cut(0), -1);
        is("a third behind at most", x.even(0, 720720, 240240), 0);
        is("cut", x.cut(0), 1);
        is("b and c must", x.cut(1), 6);
        promise = 24;
        is("least of three", x.least(0), 480480);
        make(22, KIND + DAILY, 28);
        is("nobody there", x.even(0, 720720, 720720), 0);
        promise = 23;
        is("cut", x.cut(0), 0);
        is("nobody", x.cut(1), 0);
        promise = 24;
        is("nobody there", x.least(0), -1);
    }

    private static void cycle() {
        make(25, "days 6;person a part 1 from 0 to 0;person b part 2 from 3 to 4;", 0);
        is("whoever may", x.cycle(3), 240240);
        is("six", x.cycle(6), 240240);
        is("48", x.cycle(48), 240240);
        is("not whole", x.cycle(4), -1);
        is("0", x.cycle(0), -1);
        is("51", x.cycle(51), -1);
        is("-3", x.cycle(-3), -1);
        make(25, "person a part 4 from 0 to 0;", 0);
        is("one alone", x.cycle(1), 0);
        is("one alone, 48", x.cycle(48), 0);
        is("49", x.cycle(49), -1);
        make(25, "person a part 2 from 0 to 0;person b part 2 from 0 to 0;", 0);
        is("two turns of four parts", x.cycle(2), 360360);
        is("one", x.cycle(1), -1);
        make(25, KIND, 0);
        is("nobody", x.cycle(1), -1);
    }

    private static void swaps() {
        make(26, "days 4;person a part 1 from 0 to 199;person b part 1 from 0 to 199;" + KIND + DAILY, 4);
        is("none tried yet", x.ended(), -1);
        lay(0, 0, 1, 1);
        is("one try", x.swaps(1), 0);
        promise = 27;
        is("a swap was left", x.ended(), 0);
        promise = 26;
        servers("nothing done", 0, 0, 1, 1);
        is("two tries", x.swaps(2), 1);
        servers("0 and 3 swapped", 1, 0, 1, 0);
        promise = 27;
        is("a swap was left", x.ended(), 0);
        is("three tries of four pairs", x.swaps(3), 0);
        is("one was left", x.ended(), 0);
        is("four tries of four pairs", x.swaps(4), 0);
        is("all were gone over", x.ended(), 1);
        promise = 26;
        is("0", x.swaps(0), -1);
        is("1001", x.swaps(1001), -1);
        is("-1", x.swaps(-1), -1);
        promise = 27;
        is("as it was", x.ended(), 1);
        promise = 26;
        lay(0, 0, 1, 1);
        is("1000", x.swaps(1000), 1);
        x.set(1, -1);
        x.set(0, 0);
        x.set(2, 0);
        x.set(3, 0);
        is("open ones and like ones are no swaps", x.swaps(1), 0);
        promise = 27;
        is("all were gone over", x.ended(), 1);
        make(26, "days 200;" + PEOPLE3 + KIND + "kind m weighs 1;turn m on day < 5;turn k on day > 197;"
            + "never a k on day = 199;rest m m 30;", 7);
        lay(-1, -1, -1, -1, -1, 1, 0);
        is("on the last days, WORST stays as it is", x.swaps(1), 1);
        servers("on the last days", -1, -1, -1, -1, -1, 0, 1);
        make(26, "days 6;" + PEOPLE3 + KIND + "kind m weighs 1;" + "turn k on day < 4;turn m on day > 3;rest k m 2;", 6);
        lay(1, 2, 0, 1, 2, 1);
        is("a rest that begins after a swap", x.first(), 5);
        is("swaps mend it", x.swaps(1000) > 0, true);
        is("lawful then", x.bars(), 0);
        make(26, "days 3;" + PEOPLE3 + KIND + DAILY + "never a k on day=0;", 3);
        lay(0, 1, 2);
        is("fewer bars", x.swaps(1), 1);
        servers("0 and 1", 1, 0, 2);
        lay(1, 0, 2);
        x.give(0, 0);
        x.give(1, 1);
        is("both change, who counts and who serves", x.swaps(1), 1);
        is("counts", x.turn(0, 2), 0);
        is("serves", x.turn(0, 3), 1);
        is("counts", x.turn(1, 2), 1);
        is("serves", x.turn(1, 3), 0);
    }

    private static void ill() {
        make(28, "days 4;" + PEOPLE3 + KIND + DAILY, 4);
        lay(0, 1, 0, 2);
        long far = Long.MAX_VALUE;
        is("person 3", x.ill(3, 0, 3, far), -1);
        is("person -1", x.ill(-1, 0, 3, far), -1);
        is("from -1", x.ill(0, -1, 3, far), -1);
        is("to ahead of from", x.ill(0, 2, 1, far), -1);
        is("to is no day that can be", x.ill(0, 0, 200, far), -1);
        is("nor are both", x.ill(0, 200, 200, far), -1);
        is("to far off", x.ill(0, 0, Integer.MAX_VALUE, far), -1);
        is("both behind the days", x.ill(0, 4, 4, 0), 0);
        is("both the last that can be", x.ill(0, 199, 199, 0), 0);
        is("bound -1 behind the days", x.ill(0, 4, 5, -1), -1);
        is("bound -1", x.ill(0, 0, 3, -1), -1);
        is("no turns on these days", x.ill(0, 1, 1, 0), 0);
        is("no way within the bound", x.ill(0, 0, 3, 0), -2);
        servers("all stays", 0, 1, 0, 2);
        is("two", x.ill(0, 0, 3, far), 2);
        servers("the first way", 1, 1, 1, 2);
        lay(0, 1, 0, 2);
        is("to behind the days", x.ill(0, 1, 4, far), 1);
        servers("the one from day 1 on", 0, 1, 1, 2);
        is("to the last day that can be", x.ill(2, 0, 199, far), 1);
        servers("the last turn, too", 0, 1, 1, 0);
        lay(0, 1, 0, 2);
        is("the first within the bound", x.ill(0, 0, 3, 960960), 2);
        servers("b, then c: b twice would be too far ahead", 1, 1, 2, 2);
        make(28, "days 4;" + PEOPLE3 + KIND + DAILY + "rest k k 1;never b k on day=0;", 4);
        lay(0, 1, 0, 0);
        x.give(2, 1);
        is("who serves", x.ill(0, 0, 3, Long.MAX_VALUE), 2);
        is("served by", x.turn(0, 3), 2);
        is("counts for", x.turn(0, 2), 2);
        is("turn 2 is b's to serve", x.turn(2, 3), 1);
        is("and counts for a", x.turn(2, 2), 0);
        is("rest after b", x.turn(3, 3), 2);
    }

    private static void illMore() {
        make(28, "days 1;" + PEOPLE3 + KIND + DAILY + DAILY + DAILY + "apart b c;", 3);
        lay(0, 0, -1);
        is("apart", x.ill(0, 0, 0, Long.MAX_VALUE), -2);
        lay(0, 1, -1);
        is("one that day, the other apart", x.ill(0, 0, 0, Long.MAX_VALUE), -2);
        servers("all stays", 0, 1, -1);
        make(28, "days 7;" + PEOPLE3 + KIND + DAILY, 7);
        lay(0, 0, 0, 0, 0, 0, 0);
        is("seven", x.ill(0, 0, 6, Long.MAX_VALUE), -1);
        is("six", x.ill(0, 1, 6, Long.MAX_VALUE), 6);
        servers("six", 0, 1, 1, 1, 1, 1, 1);
        make(28, "days 1;person a part 1 from 0 to 9;" + KIND + DAILY, 1);
        x.set(0, 0);
        is("nobody else", x.ill(0, 0, 0, Long.MAX_VALUE), -2);
        String fours = "never b n on all;";
        String twos = "never b o on all;never c o on all;never d o on all;never b p on all;never c p on all;never d p on all;";
        make(28, "days 1;" + PEOPLE3 + KIND + "kind m weighs 1;" + DAILY + "turn m on all;apart a b;never c m on all;", 2);
        lay(0, 0);
        is("who is ill is apart from nobody that day", x.ill(0, 0, 0, Long.MAX_VALUE), 2);
        servers("c, so that b can have the m", 2, 1);
        behind2000();
        ways(twos + fours, 6, -3);
        ways(twos + fours + "never b m on all;", 6, -2);
        ways(twos, -3, -3);
    }

    /** f alone is due the last turn of k, b alone the first of the others: one way will do, the 2001st of 2500. */
    private static void behind2000() {
        StringBuilder text = new StringBuilder("days 10;");
        for (int n = 0; n < 6; n++) {
            text.append("person ").append((char) ('a' + n)).append(" part 1 from ").append(n == 1 ? 0 : 1);
            text.append(" to ").append(n == 5 ? 9 : 8).append(';');
        }
        for (int n = 0; n < 6; n++) {
            char kind = (char) ('k' + n);
            text.append("kind ").append(kind).append(" weighs 1;turn ").append(kind).append(" on day=");
            text.append(n == 0 ? 9 : 0).append(" or day=").append(n + 1).append(';');
        }
        text.append("never c o on all;never d o on all;never e o on all;never c p on all;never d p on all;never e p on all;");
        make(28, text.toString(), 12);
        for (int turn = 5; turn < 11; turn++) {
            x.set(turn, 0);
        }
        is("the 2001st way is not tried", x.ill(0, 0, 9, 720720), -3);
        for (int turn = 5; turn < 11; turn++) {
            x.set(turn, turn == 5 ? 5 : 1);
        }
        is("but it would do", x.worst(0), 720720);
    }

    /**
     * Six turns of a, each the last of its kind, and f far behind in each kind: the last of all ways, f everywhere,
     * is the only one within the bound. It is found if there are no 2000 ways ahead of it.
     */
    private static void ways(String nevers, int best, int none) {
        StringBuilder text = new StringBuilder("days 7;");
        for (int n = 0; n < 6; n++) {
            text.append("person ").append((char) ('a' + n)).append(" part ").append(n == 5 ? 9 : 1).append(" from 0 to 9;");
        }
        for (int n = 0; n < 6; n++) {
            char kind = (char) ('k' + n);
            text.append("kind ").append(kind).append(" weighs 1;turn ").append(kind).append(" on day=0 or day=");
            text.append(n + 1).append(';');
        }
        make(28, text + nevers, 12);
        for (int turn = 6; turn < 12; turn++) {
            x.set(turn, 0);
        }
        is("none within 0", x.ill(0, 0, 6, 0), none);
        servers("all stays", -1, -1, -1, -1, -1, -1, 0, 0, 0, 0, 0, 0);
        is("one less", x.ill(0, 0, 6, 589679), none);
        is("f had one due in the kinds o and p", x.ill(0, 0, 6, 589680), best);
        int then = best == 6 ? 5 : 0;
        servers("then", -1, -1, -1, -1, -1, -1, then, then, then, then, then, then);
    }

    private static void reasons() {
        make(29, BARRED, 6);
        is("all but d", x.could(1), 7);
        x.set(0, 0);
        is("not a, nor b who is apart, nor d", x.could(1), 4);
        is("rest after k", x.could(3), 14);
        is("the same kind", x.could(2), 15);
        is("its own", x.could(0), 15);
        x.set(1, 1);
        is("in place of who does", x.could(0), 12);
        is("turn 6", x.could(6), -1);
        is("turn -1", x.could(-1), -1);
        promise = 30;
        is("c is as far behind as d: the least", x.behind(0), 2);
        is("nobody has had a k but a", x.behind(2), 1);
        x.set(2, 1);
        is("c is behind most", x.behind(4), 2);
        is("turn 6", x.behind(6), -1);
        is("turn -1", x.behind(-1), -1);
        make(30, MIXED, 6);
        is("b is due most", x.behind(0), 1);
        is("nobody may", x.behind(5), -1);
        promise = 29;
        is("nobody may", x.could(5), 0);
    }

    private static void owesAndMeets() {
        make(31, BARRED, 6);
        is("nothing yet", x.owes(0, 1), 0);
        lay(0, 1, 0, 1, 2, 3);
        x.give(0, 1);
        x.give(2, 1);
        x.give(3, 0);
        is("b served two for a, a one for b", x.owes(0, 1), 1);
        is("the other way", x.owes(1, 0), -1);
        is("to oneself", x.owes(0, 0), 0);
        is("c", x.owes(0, 2), 0);
        int none = -1000000000;
        is("person 4", x.owes(0, 4), none);
        is("person -1", x.owes(-1, 0), none);
        promise = 32;
        lay(0, 1, 0, 1, 2, 0);
        is("two days", x.meet(0, 1), 2);
        is("one day", x.meet(2, 0), 1);
        is("no day", x.meet(2, 1), 0);
        x.give(0, 1);
        is("who serves meets", x.meet(0, 1), 1);
        is("the same", x.meet(1, 1), -1);
        is("person 4", x.meet(0, 4), -1);
        is("person -1", x.meet(-1, 0), -1);
        promise = 33;
        lay(0, 1, 0, 1, 2, 0);
        is("most", x.meets(true), 2);
        is("least", x.meets(false), 0);
        make(33, "person a part 1 from 0 to 1;", 0);
        is("one alone", x.meets(true), -1);
        is("one alone", x.meets(false), -1);
        make(33, "days 2;person a part 1 from 0 to 1;person b part 1 from 0 to 1;" + KIND + DAILY + DAILY, 4);
        lay(0, 1, 1, 0);
        is("the least of one pair", x.meets(false), 2);
    }

    private static String picture() {
        StringBuilder text = new StringBuilder();
        int length = x.image();
        for (int k = 0; k < length; k++) {
            text.append((char) x.octet(k));
        }
        return text.toString();
    }

    private static boolean on(String text) {
        Feeding.put(x, text);
        boolean answer = x.on();
        is("the tape went", x.end(1), false);
        return answer;
    }

    private static void images() {
        make(34, "days 3;" + PEOPLE3 + KIND + DAILY, 3);
        lay(2, -1, 1);
        x.give(0, 1);
        is("image", x.image(), 9);
        int[] want = {3, 2, 1, 255, 255, 1, 1, 6, 0};
        want[7] = (3 + 2 + 1 + 255 + 255 + 1 + 1) % 256;
        want[8] = 3 ^ 2 ^ 1 ^ 255 ^ 255 ^ 1 ^ 1;
        for (int k = 0; k < 9; k++) {
            promise = 35;
            is("octet " + k, x.octet(k), want[k]);
        }
        is("octet 9", x.octet(9), -1);
        is("octet -1", x.octet(-1), -1);
        String first = picture();
        x.set(0, 0);
        is("the latest image(), not the state", x.octet(1), 2);
        is("house", Feeding.house(x, "days 3;" + PEOPLE3 + KIND + DAILY), 3);
        is("it stays", x.octet(1), 2);
        promise = 36;
        is("on", on(first), true);
        is("counts", x.turn(0, 2), 2);
        is("serves", x.turn(0, 3), 1);
        is("open", x.turn(1, 2), -1);
        is("open", x.turn(1, 3), -1);
        String[] not = {"", "\3", first.substring(0, 8), first + "\0", "\4" + first.substring(1),
            told(3, 3, 0, 0, 0, 0, 0), told(3, 0, 255, 0, 0, 0, 0), told(3, 255, 0, 0, 0, 0, 0), told(3, 0, 0, 0, 0, 0, 3),
            told(2, 0, 0, 0, 0), told(4, 0, 0, 0, 0, 0, 0, 0, 0), told(3, 254, 254, 0, 0, 0, 0),
            first.substring(0, 7) + (char) (first.charAt(7) ^ 1) + first.charAt(8),
            first.substring(0, 7) + first.charAt(7) + (char) (first.charAt(8) ^ 128)};
        for (String text : not) {
            is("none", on(text), false);
            is("all stays", x.turn(0, 3), 1);
        }
        is("all open", on(told(3, 255, 255, 255, 255, 255, 255)), true);
        is("all open", x.has(5), 3);
        make(34, "days 100;person a part 1 from 0 to 1;" + KIND + DAILY + DAILY, 200);
        is("200 turns", x.image(), 403);
        is("how many", x.octet(0), 200);
        is("the last", x.octet(402), 200);
        is("the sum", x.octet(401), (200 + 400 * 255) % 256);
        promise = 36;
        is("and back", on(picture()), true);
    }

    /** An image of these bytes, with the two that close it. */
    private static String told(int... bytes) {
        StringBuilder text = new StringBuilder();
        int sum = 0;
        int mixed = 0;
        for (int octet : bytes) {
            text.append((char) octet);
            sum += octet;
            mixed ^= octet;
        }
        return text.append((char) (sum % 256)).append((char) mixed).toString();
    }

    public static void main(String[] args) {
        newObject();
        feed();
        end();
        house();
        tests();
        faults();
        faultsOfSize();
        has();
        letter();
        turn();
        mayAndDue();
        levels();
        evenMore();
        bars();
        setAndGive();
        step();
        rounds();
        even();
        cycle();
        swaps();
        ill();
        illMore();
        reasons();
        owesAndMeets();
        images();
        System.out.println("PromiseTest: " + checks + " answers, " + wrong + " wrong");
        System.exit(wrong == 0 ? 0 : 1);
    }
}
