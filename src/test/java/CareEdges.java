/** Term IV and promises 28 to 36: each sentence about an edge of ill ones, reasons, trades and images by itself. */
public final class CareEdges {
    private static final long FAR_BOUND = Long.MAX_VALUE;
    private static final int NO_DEBT = -1000000000;
    private static final String TWO = Edges.people(2);
    private static final String THREE = Edges.people(3);
    private static final String FOUR = Edges.people(4);

    private CareEdges() {
    }

    private static String daily(int days, String people) {
        return "days " + days + ";" + people + Edges.KIND + Edges.DAILY;
    }

    /** On one day so many turns of k. */
    private static String oneDay(int turns, String people) {
        return "days 1;" + people + Edges.KIND + Edges.times(turns, Edges.DAILY);
    }

    private static void ill(int person, int from, int to, long bound, int want) {
        Edges.is("ill(" + person + ", " + from + ", " + to + ", " + bound + ")", Edges.x.ill(person, from, to, bound), want);
    }

    // ---- who is ill

    private static void illDays() {
        Edges.sentence("IV: ILL: from a DAY to a DAY, both too");
        Edges.house(daily(4, TWO), 4);
        Edges.lay(0, 0, 0, 0);
        ill(0, 1, 2, FAR_BOUND, 2);
        Edges.laid("1 and 2", 0, 1, 1, 0);
        ill(0, 3, 3, FAR_BOUND, 1);
        Edges.laid("the last", 0, 1, 1, 1);
        ill(0, 0, 0, FAR_BOUND, 1);
        Edges.laid("the first", 1, 1, 1, 1);
        Edges.house("days 2;" + TWO + Edges.dailyKinds(2), 4);
        Edges.lay(0, 1, 1, 0);
        ill(0, 1, 1, FAR_BOUND, -2);
        Edges.lay(0, 1, -1, 0);
        ill(0, 1, 1, FAR_BOUND, 1);
        Edges.laid("the second of its day", 0, 1, -1, 1);
        Edges.sentence("IV: ILL: the days may lie behind those of the HOUSE");
        Edges.house(daily(4, TWO), 4);
        Edges.lay(1, 1, 1, 0);
        ill(0, 4, 4, 0, 0);
        ill(0, 4, 199, 0, 0);
        ill(0, 199, 199, 0, 0);
        ill(1, 3, 199, 0, 0);
        ill(0, 3, 4, FAR_BOUND, 1);
        Edges.laid("the last day", 1, 1, 1, 1);
        Edges.house(daily(200, TWO), 200);
        Edges.is("day 199", Edges.x.set(199, 0), true);
        ill(0, 0, 198, FAR_BOUND, 0);
        ill(0, 199, 199, FAR_BOUND, 1);
        Edges.is("served by", Edges.x.turn(199, 3), 1);
        ill(1, 0, 199, FAR_BOUND, 1);
        Edges.is("served by", Edges.x.turn(199, 3), 0);
        Edges.sentence("IV: ILL: the TURNS that PERSON serves, not those that count for that one");
        Edges.house(daily(2, THREE), 2);
        Edges.lay(2, 1);
        Edges.is("give", Edges.x.give(0, 1) && Edges.x.give(1, 0), true);
        ill(2, 0, 1, FAR_BOUND, 0);
        ill(1, 0, 1, FAR_BOUND, 1);
        Edges.counts("the first", 0, 1);
        Edges.serves("the first", 0, 0);
        Edges.sentence("IV: ILL: are counted for and served by others");
        Edges.house(daily(2, THREE), 2);
        Edges.lay(0, 1);
        ill(0, 0, 1, FAR_BOUND, 1);
        Edges.laid("b", 1, 1);
        ill(1, 0, 1, FAR_BOUND, 2);
        Edges.laid("a", 0, 0);
        Edges.house(daily(1, Edges.person('a', 1)), 1);
        Edges.lay(0);
        ill(0, 0, 0, FAR_BOUND, -2);
        Edges.laid("nobody else: all stays", 0);
    }

    private static void illBars() {
        Edges.sentence("IV: ILL: none of these has one of the BARS 1 to 5: 2");
        Edges.house(daily(2, THREE) + "never b k on day=0;", 2);
        Edges.lay(0, 0);
        ill(0, 0, 1, FAR_BOUND, 2);
        Edges.laid("b may not on day 0", 2, 1);
        Edges.sentence("IV: ILL: none of these has one of the BARS 1 to 5: 3");
        Edges.house(oneDay(2, THREE), 2);
        Edges.lay(0, 1);
        ill(0, 0, 0, FAR_BOUND, 1);
        Edges.laid("b has one that day", 2, 1);
        Edges.lay(0, 0);
        ill(0, 0, 0, FAR_BOUND, 2);
        Edges.laid("one each", 1, 2);
        Edges.house(oneDay(3, THREE), 3);
        Edges.lay(0, 0, 0);
        ill(0, 0, 0, FAR_BOUND, -2);
        Edges.laid("all stays", 0, 0, 0);
        Edges.sentence("IV: ILL: none of these has one of the BARS 1 to 5: 4");
        Edges.house(daily(3, THREE) + "rest k k 1;", 3);
        Edges.lay(1, 0, -1);
        ill(0, 1, 1, FAR_BOUND, 1);
        Edges.laid("b rests", 1, 2, -1);
        Edges.lay(0, 0, 0);
        ill(0, 0, 2, FAR_BOUND, 3);
        Edges.laid("also after those laid anew", 1, 2, 1);
        Edges.house(daily(2, TWO) + "rest k k 1;", 2);
        Edges.lay(1, 0);
        ill(0, 0, 1, FAR_BOUND, -2);
        Edges.laid("nobody rested", 1, 0);
        Edges.sentence("IV: ILL: a TURN behind them may get a BAR");
        Edges.house(daily(2, TWO) + "rest k k 1;", 2);
        Edges.lay(0, 1);
        ill(0, 0, 0, FAR_BOUND, 1);
        Edges.laid("b", 1, 1);
        Edges.bars("b's next one", 0, 4);
        Edges.sentence("IV: ILL: none of these has one of the BARS 1 to 5: 5");
        Edges.house(oneDay(2, FOUR) + "apart b c;", 2);
        Edges.lay(0, 1);
        ill(0, 0, 0, FAR_BOUND, 1);
        Edges.laid("c is apart from b", 3, 1);
        Edges.lay(0, 0);
        ill(0, 0, 0, FAR_BOUND, 2);
        Edges.laid("also among those laid anew", 1, 3);
        Edges.house(oneDay(2, THREE) + "apart a b;apart a c;", 2);
        Edges.lay(0, 0);
        ill(0, 0, 0, FAR_BOUND, 2);
        Edges.laid("from the one who is out nobody is apart", 1, 2);
        Edges.sentence("IV: ILL: BAR 6 is not asked");
        Edges.house(oneDay(2, FOUR) + "beside b d;", 2);
        Edges.lay(0, 2);
        ill(0, 0, 0, FAR_BOUND, 1);
        Edges.laid("b", 1, 2);
        Edges.bars("b without d", 6, 0);
        Edges.sentence("IV: ILL: the BARS of other TURNS don't matter");
        Edges.house(daily(3, THREE) + "never c k on day=2;", 3);
        Edges.lay(0, -1, 2);
        ill(0, 0, 0, FAR_BOUND, 1);
        Edges.laid("b", 1, -1, 2);
    }

    private static void illOrder() {
        Edges.sentence("IV: ILL: the first such way in the order of rows of PERSONS, TURN by TURN");
        Edges.house("days 2;" + FOUR + Edges.KIND + "kind l weighs 1;turn k on all;turn l on day=1;"
            + "never b k on day=0;never a l on all;never b l on all;", 3);
        Edges.lay(0, 0, 0);
        ill(0, 0, 1, FAR_BOUND, 3);
        Edges.laid("c, b, c; not d, .. nor b later", 2, 1, 2);
        Edges.house(oneDay(2, THREE) + "kind m weighs 1;turn m on all;never c m on all;never b m on all;", 3);
        Edges.lay(1, 1, 0);
        ill(1, 0, 0, FAR_BOUND, -2);
        Edges.house("days 1;" + THREE + Edges.dailyKinds(2) + "never c l on all;", 2);
        Edges.lay(0, 0);
        ill(0, 0, 0, FAR_BOUND, 2);
        Edges.laid("b first would leave none for l", 2, 1);
        Edges.sentence("IV: ILL: WORST is not above a bound");
        Edges.house(daily(1, Edges.person('a', 1) + Edges.person('b', 1) + Edges.person('c', 2)), 1);
        long[] bounds = {FAR_BOUND, 540540, 540539, 360360, 360359, 0};
        int[] who = {1, 1, 2, 2, -1, -1};
        for (int n = 0; n < bounds.length; n++) {
            Edges.lay(0);
            ill(0, 0, 0, bounds[n], who[n] < 0 ? -2 : 1);
            Edges.laid("bound " + bounds[n], Math.max(who[n], 0));
        }
        Edges.sentence("IV: ILL: WORST of all PERSONS and single KINDS");
        Edges.house("days 1;" + Edges.person('a', 1) + Edges.person('b', 1) + Edges.person('c', 2) + Edges.dailyKinds(2), 2);
        Edges.lay(0, 1);
        ill(0, 0, 0, 540539, -2);
        Edges.laid("all stays", 0, 1);
        ill(0, 0, 0, 540540, 1);
        Edges.laid("c", 2, 1);
        Edges.house(daily(2, Edges.person('a', 1, 1, 1) + Edges.person('b', 1) + Edges.person('c', 1, 0, 0)), 2);
        Edges.lay(-1, 0);
        ill(0, 1, 1, 360359, -2);
        ill(0, 1, 1, 360360, 1);
        Edges.laid("b", -1, 1);
        Edges.house("days 1;" + THREE + Edges.dailyKinds(2) + "never a l on all;", 2);
        Edges.lay(1, 0);
        ill(1, 0, 0, 720719, -2);
        ill(1, 0, 0, 720720, 1);
        Edges.laid("c, but a, the first of all, is that far ahead in l", 2, 0);
        Edges.sentence("IV: ILL: a bound (0 at least)");
        Edges.house("days 2;" + TWO + Edges.KIND + "turn k on day=0;never a k on all;", 1);
        Edges.lay(0);
        ill(0, 0, 0, -1, -1);
        ill(0, 0, 0, Long.MIN_VALUE, -1);
        ill(0, 1, 1, -1, -1);
        Edges.laid("all stays", 0);
        ill(0, 0, 0, 0, 1);
        Edges.laid("b is due all of it", 1);
    }

    /**
     * On each of the days 0 to 4 one turn of a kind of its own, all of a; others are b to e with a part each and f with
     * 9. Only with f everywhere, the last of all ways, WORST is 257400, else it is 463320 or more.
     */
    private static void lastWay(String nevers, long bound, int want) {
        StringBuilder text = new StringBuilder("days 5;");
        for (char name = 'a'; name <= 'f'; name++) {
            text.append(Edges.person(name, name == 'f' ? 9 : 1));
        }
        for (int n = 0; n < 5; n++) {
            char kind = (char) ('k' + n);
            text.append("kind ").append(kind).append(" weighs 1;turn ").append(kind).append(" on day=").append(n).append(';');
        }
        Edges.house(text + nevers, 5);
        Edges.lay(0, 0, 0, 0, 0);
        ill(0, 0, 4, bound, want);
        int then = want == 5 ? 5 : 0;
        Edges.laid("then", then, then, then, then, then);
        Edges.is("has open", Edges.x.has(5), 0);
    }

    /**
     * Each of five kinds has a turn on day 0, the first one of b, the others of f, and one of a later. Of b, f and
     * those between them, only one way does not give anybody two of a kind, nor one to those with few parts: the first
     * to f, the others to b. It is the 2001st way if c alone may not, and only once, else it comes earlier.
     */
    private static void secondThousand(String nevers, int want) {
        StringBuilder text = new StringBuilder("days 6;");
        int[] parts = {1, 4, 1, 1, 1, 4};
        for (int n = 0; n < parts.length; n++) {
            text.append(Edges.person((char) ('a' + n), parts[n]));
        }
        for (int n = 0; n < 5; n++) {
            char kind = (char) ('k' + n);
            text.append("kind ").append(kind).append(" weighs 1;turn ").append(kind).append(" on day=0 or day=").append(n + 1).append(';');
        }
        Edges.house(text + nevers, 10);
        Edges.lay(1, 5, 5, 5, 5, 0, 0, 0, 0, 0);
        ill(0, 1, 5, 480480, want);
        if (want > 0) {
            Edges.laid("f, then b", 1, 5, 5, 5, 5, 5, 1, 1, 1, 1);
        } else {
            Edges.laid("all stays", 1, 5, 5, 5, 5, 0, 0, 0, 0, 0);
        }
    }

    private static void illWays() {
        String two = "never b n on all;never b o on all;";
        Edges.sentence("IV: ILL: of ways without these BARS 2000 at most are tried: the 2000th, too");
        lastWay(two, 257400, 5);
        Edges.sentence("28: -3 when 2000 ways were tried and none will do");
        lastWay(two, 257399, -3);
        lastWay(two, 0, -3);
        Edges.sentence("IV: ILL: of ways without these BARS 2000 at most are tried: none behind the 2000th");
        lastWay("never b o on all;", 257400, -3);
        lastWay("", 257400, -3);
        secondThousand("never c o on all;", -3);
        secondThousand("never c o on all;never c n on all;", 5);
        Edges.sentence("28: -2 when there is no way");
        lastWay(two + "never c o on all;", 257399, -2);
        lastWay(two + "never c o on all;", 257400, 5);
        lastWay(two + "never c o on all;never d o on all;never e o on all;never f o on all;", FAR_BOUND, -2);
        Edges.sentence("IV: ILL: (6 at most)");
        Edges.house(daily(9, TWO), 9);
        Edges.lay(0, 0, 0, 0, 0, 0, 0, 1, -1);
        ill(0, 0, 6, FAR_BOUND, -1);
        ill(0, 0, 8, FAR_BOUND, -1);
        Edges.laid("all stays", 0, 0, 0, 0, 0, 0, 0, 1, -1);
        ill(0, 0, 5, FAR_BOUND, 6);
        Edges.laid("the first six", 1, 1, 1, 1, 1, 1, 0, 1, -1);
        ill(1, 0, 8, FAR_BOUND, -1);
        ill(1, 1, 6, FAR_BOUND, 5);
        Edges.laid("five", 1, 0, 0, 0, 0, 0, 0, 1, -1);
        ill(0, 1, 8, FAR_BOUND, 6);
        Edges.laid("six again", 1, 1, 1, 1, 1, 1, 1, 1, -1);
        Edges.is("give", Edges.x.give(0, 0), true);
        ill(1, 0, 8, FAR_BOUND, -1);
        Edges.is("give", Edges.x.give(1, 0), true);
        ill(1, 0, 8, FAR_BOUND, 6);
        Edges.serves("those that b served", 0, 0, 0, 0, 0, 0, 0, 0);
        Edges.house("days 1;" + TWO + Edges.KIND + Edges.times(7, Edges.DAILY), 7);
        Edges.lay(0, 0, 0, 0, 0, 0, 0);
        ill(0, 0, 0, FAR_BOUND, -1);
        Edges.lay(0, 0, 0, 0, 0, 0, -1);
        ill(0, 0, 0, FAR_BOUND, -2);
    }

    private static void illCall() {
        Edges.sentence("28: how many TURNS are laid anew (0 when there are none)");
        Edges.house(daily(3, TWO), 3);
        ill(0, 0, 2, 0, 0);
        Edges.lay(1, 1, -1);
        ill(0, 0, 2, 0, 0);
        Edges.laid("all stays", 1, 1, -1);
        Edges.house("days 3;" + TWO, 0);
        ill(1, 0, 2, 0, 0);
        Edges.sentence("28: NONE when something can't be");
        ill(0, 0, 0, FAR_BOUND, -1);
        Edges.house(daily(3, TWO), 3);
        Edges.lay(0, 1, 0);
        ill(2, 0, 2, FAR_BOUND, -1);
        ill(-1, 0, 2, FAR_BOUND, -1);
        ill(0, -1, 2, FAR_BOUND, -1);
        ill(0, -2, -1, FAR_BOUND, -1);
        ill(0, 2, 1, FAR_BOUND, -1);
        ill(0, 1, 0, FAR_BOUND, -1);
        ill(0, 0, -1, FAR_BOUND, -1);
        for (int far : Edges.FAR) {
            ill(far, 0, 2, FAR_BOUND, -1);
        }
        ill(0, Integer.MIN_VALUE, 2, FAR_BOUND, -1);
        ill(0, 0, Integer.MIN_VALUE, FAR_BOUND, -1);
        Edges.laid("all stays", 0, 1, 0);
        Edges.sentence("28: (-1 to -3: all stays): for whom they count, too");
        Edges.house(daily(2, THREE), 2);
        Edges.lay(2, 1);
        Edges.is("give", Edges.x.give(0, 0) && Edges.x.give(1, 0), true);
        ill(0, 0, 1, 0, -2);
        Edges.counts("as before", 2, 1);
        Edges.serves("as before", 0, 0);
        ill(0, 1, 1, 0, -2);
        Edges.counts("as before", 2, 1);
        Edges.serves("as before", 0, 0);
    }

    // ---- reasons

    private static void could() {
        Edges.sentence("IV: COULD: if they served it in place of who does");
        Edges.house(oneDay(2, THREE), 2);
        Edges.lay(0, 1);
        Edges.is("a's own", Edges.x.could(0), 5);
        Edges.is("b's own", Edges.x.could(1), 6);
        Edges.lay(0, -1);
        Edges.is("its own one, too", Edges.x.could(0), 7);
        Edges.is("an open one", Edges.x.could(1), 6);
        Edges.is("give", Edges.x.give(0, 2), true);
        Edges.is("by who serves", Edges.x.could(1), 3);
        Edges.sentence("IV: COULD: with none of the BARS 2 to 5");
        Edges.house(daily(3, FOUR) + "turn k on all;never d k on all;rest k k 1;apart a b;", 6);
        Edges.lay(2, -1, 0, -1, -1, -1);
        Edges.is("c has one, d never", Edges.x.could(1), 3);
        Edges.is("c rests, a has one, b is apart", Edges.x.could(3), 0);
        Edges.is("in place of a", Edges.x.could(2), 3);
        Edges.is("a rests", Edges.x.could(4), 6);
        Edges.house("days 4;" + THREE + "kind k weighs 1;kind l weighs 1;turn k on day<3;turn l on day=3;rest k l 1;rest l l 9;rest k k 2;", 4);
        Edges.lay(0, 1, 2, -1);
        Edges.is("c alone rests one day, by its KINDS", Edges.x.could(3), 3);
        Edges.is("a and b rest two days", Edges.x.could(2), 4);
        Edges.sentence("IV: COULD: BAR 6 is not looked at, nor those of other TURNS");
        Edges.house(daily(2, THREE) + "turn k on day=0;beside a c;rest k k 5;", 3);
        Edges.lay(1, -1, 2);
        Edges.is("a without c, and c who has a later one", Edges.x.could(1), 5);
        Edges.sentence("29: NONE when there is no such TURN, 0 when nobody could");
        Edges.is("new", Edges.x.could(0), -1);
        Edges.house("days 2;" + Edges.people(16) + "kind shift weighs 1;turn shift on all;never a shift on day=1;", 2);
        Edges.is("all sixteen", Edges.x.could(0), 65535);
        Edges.is("all but a", Edges.x.could(1), 65534);
        Edges.is("turn 2", Edges.x.could(2), -1);
        Edges.is("turn -1", Edges.x.could(-1), -1);
        for (int far : Edges.FAR) {
            Edges.is("turn " + far, Edges.x.could(far), -1);
        }
        Edges.house(Edges.KIND + Edges.DAILY, 28);
        Edges.is("nobody there", Edges.x.could(27), 0);
    }

    private static void behind() {
        Edges.sentence("30: the one with the greatest DUE less LEVEL, of like ones the least");
        Edges.house(daily(4, THREE), 4);
        Edges.is("all like", Edges.x.behind(0), 0);
        Edges.lay(0, -1, -1, 1);
        Edges.is("a had one", Edges.x.behind(1), 1);
        Edges.is("what comes behind it does not count", Edges.x.behind(2), 1);
        Edges.lay(1, 0, 0, 2);
        Edges.is("c, in place of who does", Edges.x.behind(3), 2);
        Edges.is("not this one itself", Edges.x.behind(0), 0);
        Edges.sentence("30: its DUE added");
        Edges.house(daily(2, Edges.person('a', 1) + Edges.person('b', 2)), 2);
        Edges.is("b is due more", Edges.x.behind(0), 1);
        Edges.lay(1, -1);
        Edges.is("a lacks more", Edges.x.behind(1), 0);
        Edges.house("days 2;" + Edges.person('a', 1) + Edges.person('b', 3) + Edges.KIND + Edges.DAILY, 2);
        Edges.lay(1, -1);
        Edges.is("both lack a half: the least", Edges.x.behind(1), 0);
        Edges.sentence("30: LEVEL of its KIND ahead of it, by whom it counts");
        Edges.house("days 2;" + TWO + Edges.dailyKinds(2), 4);
        Edges.lay(0, 1, -1, -1);
        Edges.is("k", Edges.x.behind(2), 1);
        Edges.is("l", Edges.x.behind(3), 0);
        Edges.is("give", Edges.x.give(0, 1) && Edges.x.give(1, 0), true);
        Edges.is("k", Edges.x.behind(2), 1);
        Edges.is("l", Edges.x.behind(3), 0);
        Edges.sentence("30: of those that COULD have it");
        Edges.house(daily(3, THREE) + "rest k k 1;never c k on day=1;", 3);
        Edges.lay(0, -1, -1);
        Edges.is("b alone", Edges.x.behind(1), 1);
        Edges.lay(0, 1, -1);
        Edges.is("c alone lacks, and could", Edges.x.behind(2), 2);
        Edges.sentence("30: NONE when there is none, or no such TURN");
        Edges.is("new", Edges.x.behind(0), -1);
        Edges.house(daily(2, Edges.person('a', 1, 0, 0)), 2);
        Edges.is("nobody", Edges.x.behind(1), -1);
        Edges.is("a", Edges.x.behind(0), 0);
        Edges.is("turn 2", Edges.x.behind(2), -1);
        Edges.is("turn -1", Edges.x.behind(-1), -1);
        for (int far : Edges.FAR) {
            Edges.is("turn " + far, Edges.x.behind(far), -1);
        }
    }

    private static void owes() {
        Edges.sentence("IV: OWES: how many a second PERSON served that count for a first one, less the other way round");
        Edges.house(daily(6, THREE), 6);
        Edges.lay(0, 0, 0, 1, 2, -1);
        Edges.is("nothing given", Edges.x.owes(0, 1), 0);
        Edges.is("give", Edges.x.give(0, 1) && Edges.x.give(1, 1) && Edges.x.give(2, 1) && Edges.x.give(3, 0), true);
        Edges.is("a to b", Edges.x.owes(0, 1), 2);
        Edges.is("b to a", Edges.x.owes(1, 0), -2);
        Edges.is("a to c", Edges.x.owes(0, 2), 0);
        Edges.is("c to b", Edges.x.owes(2, 1), 0);
        Edges.is("give", Edges.x.give(4, 0), true);
        Edges.is("c to a", Edges.x.owes(2, 0), 1);
        Edges.is("a to c", Edges.x.owes(0, 2), -1);
        Edges.is("a to a", Edges.x.owes(0, 0), 0);
        Edges.is("b to b", Edges.x.owes(1, 1), 0);
        Edges.house(daily(200, TWO), 200);
        Edges.is("all of a", Edges.round(0, "a"), 200);
        for (int turn = 0; turn < 200; turn++) {
            Edges.is("give " + turn, Edges.x.give(turn, 1), true);
        }
        Edges.is("200", Edges.x.owes(0, 1), 200);
        Edges.is("-200", Edges.x.owes(1, 0), -200);
        Edges.sentence("31: -10 to the 9 when there are none such");
        Edges.is("new", Edges.x.owes(0, 0), NO_DEBT);
        Edges.house(daily(2, TWO), 2);
        Edges.is("second 2", Edges.x.owes(0, 2), NO_DEBT);
        Edges.is("first 2", Edges.x.owes(2, 0), NO_DEBT);
        Edges.is("both", Edges.x.owes(2, 2), NO_DEBT);
        Edges.is("first -1", Edges.x.owes(-1, 0), NO_DEBT);
        Edges.is("second -1", Edges.x.owes(0, -1), NO_DEBT);
        Edges.is("both -1", Edges.x.owes(-1, -1), NO_DEBT);
        for (int far : Edges.FAR) {
            Edges.is("first " + far, Edges.x.owes(far, 0), NO_DEBT);
            Edges.is("second " + far, Edges.x.owes(0, far), NO_DEBT);
        }
    }

    private static void meet() {
        Edges.sentence("IV: MEET: on how many DAYS both serve");
        Edges.house("days 3;" + THREE + Edges.KIND + Edges.times(4, Edges.DAILY), 12);
        Edges.lay(0, 1, 0, 1, 0, -1, -1, -1, 0, 2, 2, 1);
        Edges.is("a and b: days, not turns", Edges.x.meet(0, 1), 2);
        Edges.is("b and a", Edges.x.meet(1, 0), 2);
        Edges.is("a and c", Edges.x.meet(0, 2), 1);
        Edges.is("b and c", Edges.x.meet(1, 2), 1);
        Edges.is("give", Edges.x.give(11, 2) && Edges.x.give(4, 1), true);
        Edges.is("by who serves", Edges.x.meet(0, 1), 1);
        Edges.is("b and c no more", Edges.x.meet(2, 1), 0);
        Edges.house("days 100;" + TWO + Edges.dailyKinds(2), 200);
        Edges.is("all days", Edges.round(0, "a b") + Edges.round(1, "b a"), 200);
        Edges.is("100", Edges.x.meet(0, 1), 100);
        Edges.house("days 200;" + TWO + Edges.KIND + "turn k on day=199;turn k on day=199;", 2);
        Edges.lay(0, 1);
        Edges.is("the last day", Edges.x.meet(0, 1), 1);
        Edges.sentence("32: NONE when there are none such (unlike PERSONS)");
        Edges.is("new", Edges.x.meet(0, 1), -1);
        Edges.house(daily(2, TWO), 2);
        Edges.is("none served yet", Edges.x.meet(0, 1), 0);
        Edges.is("a and a", Edges.x.meet(0, 0), -1);
        Edges.is("b and b", Edges.x.meet(1, 1), -1);
        Edges.is("second 2", Edges.x.meet(0, 2), -1);
        Edges.is("first 2", Edges.x.meet(2, 0), -1);
        Edges.is("first -1", Edges.x.meet(-1, 0), -1);
        Edges.is("second -1", Edges.x.meet(0, -1), -1);
        for (int far : Edges.FAR) {
            Edges.is("first " + far, Edges.x.meet(far, 0), -1);
            Edges.is("second " + far, Edges.x.meet(0, far), -1);
        }
        Edges.sentence("33: of all unlike PERSONS the greatest MEET (true) or the least");
        Edges.house("days 4;" + THREE + Edges.dailyKinds(2), 8);
        Edges.is("none served: most", Edges.x.meets(true), 0);
        Edges.is("none served: least", Edges.x.meets(false), 0);
        Edges.lay(1, 2, 1, 2, 1, 2, 0, 1);
        Edges.is("b and c: the last pair", Edges.x.meets(true), 3);
        Edges.is("a and c: never", Edges.x.meets(false), 0);
        Edges.lay(0, 1, 0, 1, 0, 2, 1, 2);
        Edges.is("a and b: the first pair", Edges.x.meets(true), 2);
        Edges.is("each once at least", Edges.x.meets(false), 1);
        Edges.lay(0, 2, 0, 2, 0, 2, 0, 2);
        Edges.is("a and c: between", Edges.x.meets(true), 4);
        Edges.sentence("33: NONE with fewer than two");
        Edges.is("new", Edges.x.meets(true), -1);
        Edges.is("new", Edges.x.meets(false), -1);
        Edges.house(daily(2, Edges.person('a', 1)), 2);
        Edges.lay(0, 0);
        Edges.is("one", Edges.x.meets(true), -1);
        Edges.is("one", Edges.x.meets(false), -1);
        Edges.house(TWO, 0);
        Edges.is("two", Edges.x.meets(true), 0);
        Edges.is("two", Edges.x.meets(false), 0);
    }

    // ---- images

    private static void octets(int... want) {
        for (int k = 0; k < want.length; k++) {
            Edges.is("octet " + k, Edges.x.octet(k), want[k]);
        }
        Edges.is("no more", Edges.x.octet(want.length), -1);
    }

    private static void image() {
        Edges.sentence("IV: AN IMAGE: how many TURNS, for each for whom it counts and who serves it (255 for OPEN)");
        Edges.is("no turns", Edges.x.image(), 3);
        octets(0, 0, 0);
        Edges.house(daily(2, THREE), 2);
        Edges.lay(1, -1);
        Edges.is("give", Edges.x.give(0, 2), true);
        Edges.is("image", Edges.x.image(), 7);
        octets(2, 1, 2, 255, 255, (2 + 1 + 2 + 255 + 255) % 256, 2 ^ 1 ^ 2 ^ 255 ^ 255);
        Edges.sentence("IV: AN IMAGE: the sum of all ahead of both, mod 256");
        Edges.house(daily(1, TWO), 1);
        Edges.is("image", Edges.x.image(), 5);
        octets(1, 255, 255, 255, 1);
        Edges.house("days 128;" + TWO + Edges.KIND + Edges.DAILY, 128);
        Edges.is("all of b", Edges.round(0, "b"), 128);
        Edges.is("image", Edges.x.image(), 259);
        Edges.is("384 mod 256", Edges.x.octet(257), 128);
        Edges.is("xored", Edges.x.octet(258), 128);
        Edges.is("the first to a", Edges.x.set(0, 0) && Edges.x.give(0, 1), true);
        Edges.is("image", Edges.x.image(), 259);
        Edges.is("383 mod 256", Edges.x.octet(257), 127);
        Edges.is("xored", Edges.x.octet(258), 129);
        Edges.sentence("34: how many bytes, up to 200 TURNS");
        Edges.house("days 200;" + TWO + Edges.KIND + Edges.DAILY, 200);
        Edges.is("image", Edges.x.image(), 403);
        Edges.is("how many", Edges.x.octet(0), 200);
        Edges.is("the last open one", Edges.x.octet(400), 255);
        Edges.is("the sum", Edges.x.octet(401), (200 + 400 * 255) % 256);
        Edges.is("xored", Edges.x.octet(402), 200);
        Edges.is("no more", Edges.x.octet(403), -1);
        Edges.sentence("35: of the latest image(), whatever came behind it");
        Edges.house(daily(2, TWO), 2);
        Edges.lay(1, 0);
        Edges.is("image", Edges.x.image(), 7);
        Edges.lay(0, 0);
        octets(2, 1, 1, 0, 0, 4, 2);
        Edges.house("", 0);
        octets(2, 1, 1, 0, 0, 4, 2);
        Edges.is("a shorter one", Edges.x.image(), 3);
        octets(0, 0, 0);
        Edges.is("byte 5 is none of it", Edges.x.octet(5), -1);
        Edges.sentence("35: NONE when there is none such");
        Edges.is("ahead of any", Edges.x.octet(0), -1);
        Edges.house(daily(2, TWO), 2);
        Edges.is("a house is no image", Edges.x.octet(0), -1);
        Edges.is("image", Edges.x.image(), 7);
        Edges.is("7", Edges.x.octet(7), -1);
        Edges.is("-1", Edges.x.octet(-1), -1);
        for (int far : Edges.FAR) {
            Edges.is("octet " + far, Edges.x.octet(far), -1);
        }
    }

    private static void on() {
        Edges.sentence("36: the tape is AN IMAGE: true, TURNS are as it tells");
        Edges.is("of no turns", Edges.on("\0\0\0"), true);
        Edges.house(daily(3, THREE), 3);
        Edges.is("on", Edges.on(Edges.closed(3, 2, 0, 255, 255, 1, 1)), true);
        Edges.counts("told", 2, -1, 1);
        Edges.serves("told", 0, -1, 1);
        Edges.is("all of the last, who may", Edges.on(Edges.closed(3, 2, 2, 2, 2, 2, 2)), true);
        Edges.laid("told", 2, 2, 2);
        Edges.is("all open", Edges.on(Edges.closed(3, 255, 255, 255, 255, 255, 255)), true);
        Edges.is("has open", Edges.x.has(5), 3);
        Edges.house(daily(1, THREE) + "never a k on all;", 1);
        Edges.is("one who may not", Edges.on(Edges.closed(1, 0, 0)), true);
        Edges.laid("told", 0);
        Edges.sentence("36: TURNS are as it tells, of 200 TURNS and 16 PERSONS, too");
        Edges.house("days 200;" + Edges.people(16) + "kind shift weighs 1;turn shift on all;", 200);
        Edges.is("all of p", Edges.round(0, "p"), 200);
        String far = Edges.picture();
        Edges.is("open", Edges.x.set(199, -1), true);
        Edges.is("200 turns", Edges.on(far), true);
        Edges.is("the last", Edges.x.turn(199, 3), 15);
        Edges.sentence("36: an image of the same HOUSE, told again, is taken");
        Edges.house(daily(3, THREE), 3);
        Edges.lay(2, -1, 1);
        Edges.is("give", Edges.x.give(0, 1), true);
        String kept = Edges.picture();
        Edges.house(daily(3, THREE), 3);
        Edges.is("on", Edges.on(kept), true);
        Edges.counts("as it was", 2, -1, 1);
        Edges.serves("as it was", 1, -1, 1);
        Edges.is("it is the same", kept.equals(Edges.picture()), true);
    }

    private static void refused(String what, String bytes) {
        Edges.is(what, Edges.on(bytes), false);
        Edges.is("the tape went", Edges.x.end(1), false);
        Edges.counts(what, 2, -1, 1);
        Edges.serves(what, 0, -1, 1);
    }

    private static void noImages() {
        String right = Edges.closed(3, 2, 0, 255, 255, 1, 1);
        Edges.sentence("36: false when it is none (all stays)");
        Edges.house(daily(3, THREE), 3);
        Edges.is("on", Edges.on(right), true);
        refused("nothing", "");
        for (int length = 1; length < right.length(); length++) {
            refused("the first " + length, right.substring(0, length));
        }
        refused("one byte more", right + "\0");
        refused("one byte ahead", "\0" + right);
        refused("twice", right + right);
        for (int at = 0; at < right.length(); at++) {
            Edges.house(daily(3, THREE), 3);
            Edges.is("on", Edges.on(right), true);
            for (int bit = 0; bit < 8; bit++) {
                refused("bit " + bit + " of byte " + at,
                    right.substring(0, at) + (char) (right.charAt(at) ^ 1 << bit) + right.substring(at + 1));
            }
        }
        Edges.sentence("36: the sum alone, or the xored byte alone, is wrong");
        Edges.house(daily(3, THREE), 3);
        Edges.is("on", Edges.on(right), true);
        refused("like xored, another sum", "\3\2\2\2\2\1\1" + (char) ((right.charAt(7) + 1) % 256) + "\3");
        refused("like sum, not xored", "\3\2\0\2\0\1\1" + (char) 9 + (char) 4);
        refused("both changed about", right.substring(0, 7) + right.charAt(8) + right.charAt(7));
        Edges.sentence("36: both or none of a TURN OPEN");
        Edges.house(daily(3, THREE), 3);
        Edges.is("on", Edges.on(right), true);
        refused("counts for none", Edges.closed(3, 255, 0, 0, 0, 0, 0));
        refused("served by none", Edges.closed(3, 0, 0, 0, 0, 0, 255));
        refused("the second counts for none", Edges.closed(3, 0, 0, 255, 1, 0, 0));
        Edges.sentence("36: PERSONS that are there");
        Edges.house(daily(3, THREE), 3);
        Edges.is("on", Edges.on(right), true);
        refused("counts for 3", Edges.closed(3, 3, 0, 0, 0, 0, 0));
        refused("served by 3", Edges.closed(3, 0, 3, 0, 0, 0, 0));
        refused("the last by 3", Edges.closed(3, 0, 0, 0, 0, 0, 3));
        refused("the last for 3", Edges.closed(3, 0, 0, 0, 0, 3, 0));
        refused("254", Edges.closed(3, 0, 0, 254, 254, 0, 0));
        refused("128", Edges.closed(3, 0, 0, 0, 128, 0, 0));
        refused("16", Edges.closed(3, 16, 16, 0, 0, 0, 0));
        Edges.sentence("36: false of another number of TURNS (all stays)");
        Edges.house(daily(3, THREE), 3);
        Edges.is("on", Edges.on(right), true);
        refused("two", Edges.closed(2, 0, 0, 0, 0));
        refused("four", Edges.closed(4, 0, 0, 0, 0, 0, 0, 0, 0));
        refused("none", Edges.closed(0));
        refused("two told as three", Edges.closed(3, 0, 0, 0, 0));
        refused("three told as two", Edges.closed(2, 0, 0, 0, 0, 0, 0));
        refused("three told as four", Edges.closed(4, 0, 0, 0, 0, 0, 0));
        Edges.is("and back", Edges.on(right), true);
        Edges.house("", 0);
        Edges.is("one of three, of none", Edges.on(right), false);
        Edges.is("one of none", Edges.on("\0\0\0"), true);
        Edges.is("one of none, wrong", Edges.on("\0\0\1"), false);
        Edges.is("one of none, wrong", Edges.on("\0\1\0"), false);
        Edges.is("one of none, wrong", Edges.on("\1\1\1"), false);
    }

    /** 16 persons, 6 kinds, 200 turns. */
    private static String fullHouse() {
        StringBuilder text = new StringBuilder("days 34;");
        for (char name = 'a'; name <= 'p'; name++) {
            text.append(Edges.person(name, 1));
        }
        for (char kind = 'q'; kind <= 'v'; kind++) {
            text.append("kind ").append(kind).append(" weighs 9;turn ").append(kind).append(kind < 's' ? " on all;" : " on day<33;");
        }
        return text.append("rest v v 1;apart o p;").toString();
    }

    private static void full() {
        Edges.sentence("16 PERSONS, 6 KINDS and 200 TURNS");
        Edges.house(fullHouse(), 200);
        int[] has = {34, 16, 6, 200, 16, 200};
        for (int what = 0; what < has.length; what++) {
            Edges.is("has " + what, Edges.x.has(what), has[what]);
        }
        Edges.is("of the last kind", Edges.x.turn(197, 1), 5);
        Edges.is("which of it", Edges.x.turn(197, 5), 32);
        Edges.is("the last turn's kind", Edges.x.turn(199, 1), 1);
        Edges.is("may", Edges.x.may(15, 199), 1);
        Edges.is("due", Edges.x.due(15, 199), 45045);
        Edges.is("level", Edges.x.level(15, 5, 33), -33 * 45045);
        Edges.is("level of all", Edges.x.level(15, -1, 200), -200 * 9 * 45045);
        Edges.is("could", Edges.x.could(199), 65535);
        Edges.is("behind", Edges.x.behind(199), 0);
        Edges.is("step", Edges.x.step(-1), 200);
        Edges.is("bars", Edges.x.bars(), 0);
        Edges.laid("the first day", 0, 1, 2, 3, 4, 5);
        Edges.is("most have as many", Edges.x.gap(15, 0) < 2 * 720720, true);
        Edges.is("step by lot", Edges.x.step(Integer.MAX_VALUE), 200);
        Edges.is("bars", Edges.x.bars(), 0);
        Edges.is("round", Edges.round(5, "p o n m l k j i h g f e d c b a p o n m"), 33);
        Edges.is("the last of it", Edges.x.turn(197, 2), 15 - 32 % 20);
        Edges.is("block", Edges.block(0, "p"), 34);
        Edges.is("even", Edges.x.even(5, 675675, 675675), 1);
        Edges.is("least", Edges.x.least(5), 675675);
        Edges.is("a cut", Edges.x.even(5, 675674, 720720), 0);
        Edges.is("swaps", Edges.x.swaps(1) >= 0, true);
        Edges.is("ended", Edges.x.ended(), 0);
        Edges.is("meets", Edges.x.meets(true) >= Edges.x.meets(false), true);
        Edges.is("image", Edges.x.image(), 403);
        Edges.sentence("16 PERSONS, 6 KINDS and 200 TURNS: ILL, SWAPS over all");
        Edges.house(fullHouse(), 200);
        Edges.is("set", Edges.x.set(0, 15) && Edges.x.set(199, 15) && Edges.x.set(197, 15) && Edges.x.set(191, 15), true);
        Edges.is("the rest bars it", Edges.x.bars(), 200 - 3);
        ill(15, 0, 199, FAR_BOUND, 4);
        Edges.is("a", Edges.x.turn(0, 2), 0);
        Edges.is("a again", Edges.x.turn(191, 2), 0);
        Edges.is("not after a v the day ahead", Edges.x.turn(197, 2), 1);
        Edges.is("last", Edges.x.turn(199, 2), 0);
        ill(15, 0, 199, FAR_BOUND, 0);
        Edges.is("swaps", Edges.x.swaps(1000), 0);
        Edges.is("ended", Edges.x.ended(), 1);
        Edges.is("worst", Edges.x.worst(0) > 0, true);
    }

    private static void manyCalls() {
        Edges.sentence("An object is used for at most 512 calls: the last of them answers like the first");
        EvenRota rota = new EvenRota();
        int calls = 0;
        int right = 0;
        while (calls < 510) {
            right += rota.feed(0x64617973, 0x20393b20, 0x20202020, 0x20202020, 0x20202020) == 20 ? 1 : 0;
            right += rota.house() == 0 ? 1 : 0;
            right += rota.has(0) == 9 ? 1 : 0;
            calls += 3;
        }
        right += rota.feed(0x64617973, 0x20373b20, 0x20202020, 0x20202020, 0x20202020) == 20 ? 1 : 0;
        right += rota.house() == 0 ? 1 : 0;
        Edges.is("512 calls", right, 512);
    }

    public static void main(String[] args) {
        illDays();
        illBars();
        illOrder();
        illWays();
        illCall();
        could();
        behind();
        owes();
        meet();
        image();
        on();
        noImages();
        full();
        manyCalls();
        Edges.finish("CareEdges");
    }
}
