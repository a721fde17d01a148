import java.util.Random;

/** Term III and promises 26 and 27: each sentence about an edge of SWAPS by itself, and SWAPS by their own definition. */
public final class SwapEdges {
    private static final String TWO = Edges.people(2);
    private static final String THREE = Edges.people(3);
    private static final String FOUR = Edges.people(4);
    /** Houses with every sort of BAR, and turns on the last days there can be. */
    private static final String[] HOUSES = {
        "days 7;" + THREE + "kind k weighs 1;turn k on all;rest k k 1;",
        "days 4;" + THREE + "kind k weighs 1;kind l weighs 2;turn k on all;turn l on all;rest k l 1;rest l k 2;apart a b;",
        "days 200;" + THREE + "kind k weighs 1;turn k on day>194;turn k on day=199;rest k k 3;never b k on day=198;",
        "days 4;" + FOUR + "kind k weighs 1;kind l weighs 1;kind m weighs 1;kind n weighs 1;kind o weighs 1;kind p weighs 1;"
            + "turn n on day<3;turn o on day>0;turn p on all;rest o p 1;rest p n 2;rest n n 1;",
        "days 4;" + FOUR + "kind k weighs 1;turn k on all;turn k on all;beside a b;rest k k 1;",
        "days 5;" + Edges.person('a', 3) + Edges.person('b', 1) + Edges.person('c', 2, 1, 3)
            + "kind k weighs 1;kind l weighs 0;turn k on all;turn l on day<3;never a k on day=4;rest l k 1;apart a c;",
        "days 64;" + THREE + "kind k weighs 1;kind m weighs 1;turn k on day%30=0;turn m on day%30=1;rest k m 30;rest m k 29;",
        "days 2;" + Edges.people(16) + "kind r weighs 1;kind s weighs 1;turn r on all;turn s on all;turn s on all;rest s r 1;",
        "days 6;" + TWO + "kind k weighs 1;kind l weighs 1;turn l on day=0;turn k on day>0 and not day=3;rest l k 1;",
        "days 4;" + Edges.people(16) + "kind q weighs 1;kind r weighs 1;kind s weighs 1;kind t weighs 1;kind u weighs 1;"
            + "kind v weighs 1;turn v on all;turn v on all;turn q on day=0;rest v q 1;"};

    private SwapEdges() {
    }

    private static String daily(int days, String people) {
        return "days " + days + ";" + people + Edges.KIND + Edges.DAILY;
    }

    private static void tried(int tries, int done, int ended) {
        Edges.is("swaps(" + tries + ")", Edges.x.swaps(tries), done);
        Edges.is("ended behind swaps(" + tries + ")", Edges.x.ended(), ended);
    }

    /** a and b serve k one by one; l counts for a and is served by c, who may not: one swap mends that. */
    private static void layGiven() {
        Edges.lay(0, 1, 0);
        Edges.is("give", Edges.x.give(2, 2), true);
    }

    private static void better() {
        Edges.sentence("III: BETTER: with fewer TURNS that have a BAR, though WORST be greater");
        Edges.house("days 3;" + THREE + "kind k weighs 1;kind l weighs 1;turn k on day<2;turn l on day=2;never c l on all;", 3);
        layGiven();
        Edges.is("worst", Edges.x.worst(0), 480480);
        tried(1, 0, 0);
        tried(2, 1, 0);
        Edges.counts("swapped", 0, 0, 1);
        Edges.serves("swapped", 0, 2, 1);
        Edges.is("no bars", Edges.x.bars(), 0);
        Edges.is("worst is greater", Edges.x.worst(0), 960960);
        Edges.sentence("III: BETTER: of like ones that with the lesser WORST, never with more BARS");
        Edges.house("days 6;" + TWO + "kind l weighs 1;kind k weighs 1;turn l on day=0;turn k on day>0 and not day=3;rest l k 1;", 5);
        Edges.lay(1, 0, 1, 1, 0);
        tried(5, 0, 0);
        Edges.laid("all stays", 1, 0, 1, 1, 0);
        tried(6, 1, 0);
        Edges.laid("the last pair", 1, 0, 1, 0, 1);
        Edges.is("worst", Edges.x.worst(0), 360360);
        Edges.sentence("III: BETTER: not when BARS and WORST are alike");
        Edges.house(daily(2, TWO), 2);
        Edges.lay(0, 1);
        tried(1, 0, 1);
        Edges.laid("all stays", 0, 1);
        Edges.sentence("III: BETTER: by WORST of all, not of the two who swap");
        Edges.house(daily(4, Edges.people(3)), 4);
        Edges.lay(0, 0, 1, 1);
        tried(1000, 0, 1);
        Edges.laid("c is farthest behind all the time", 0, 0, 1, 1);
    }

    private static void swap() {
        Edges.sentence("III: A SWAP: two TURNS that count for unlike PERSONS");
        Edges.house(daily(2, THREE), 2);
        Edges.lay(0, 0);
        tried(1, 0, 1);
        Edges.is("give", Edges.x.give(1, 1), true);
        tried(1, 0, 1);
        Edges.lay(0, 1);
        Edges.is("give", Edges.x.give(0, 2) && Edges.x.give(1, 2), true);
        tried(1, 0, 1);
        Edges.lay(0, 1);
        Edges.is("a third", Edges.x.set(0, 2), true);
        tried(1, 0, 1);
        Edges.house(daily(3, THREE) + "never c k on day=0;", 3);
        Edges.lay(0, 0, 1);
        Edges.is("give", Edges.x.give(0, 2), true);
        tried(1, 1, 0);
        Edges.counts("0 and 2, not 0 and 1, which both count for a", 1, 0, 0);
        Edges.serves("0 and 2", 1, 0, 2);
        Edges.sentence("III: A SWAP: neither OPEN");
        Edges.house(daily(3, TWO) + "never a k on day=0;", 3);
        Edges.lay(0, -1, 1);
        Edges.is("bars", Edges.x.bars(), 2);
        tried(1, 1, 0);
        Edges.laid("0 and 2", 1, -1, 0);
        tried(1, 0, 1);
        Edges.lay(-1, -1, 1);
        tried(1, 0, 1);
        Edges.lay(0, -1, -1);
        tried(1, 0, 1);
        Edges.laid("all stays", 0, -1, -1);
        Edges.sentence("III: A SWAP: both for whom they count, and who serves them");
        Edges.house(daily(2, Edges.people(4)) + "never c k on day=0;", 2);
        Edges.lay(0, 1);
        Edges.is("give", Edges.x.give(0, 2) && Edges.x.give(1, 3), true);
        tried(1, 1, 0);
        Edges.counts("both", 1, 0);
        Edges.serves("both", 3, 2);
    }

    private static void swaps() {
        Edges.sentence("III: SWAPS: the first (by i, then j) that makes it BETTER");
        Edges.house(daily(4, TWO), 4);
        Edges.lay(0, 0, 1, 1);
        tried(1, 0, 0);
        Edges.laid("0 and 2 is not", 0, 0, 1, 1);
        tried(2, 1, 0);
        Edges.laid("0 and 3 is, ahead of 1 and 2", 1, 0, 1, 0);
        Edges.sentence("III: SWAPS: it begins anew");
        Edges.house(daily(4, TWO), 4);
        Edges.lay(0, 0, 1, 1);
        tried(5, 1, 0);
        Edges.lay(0, 0, 1, 1);
        tried(6, 1, 1);
        Edges.laid("two tries, then four", 1, 0, 1, 0);
        Edges.house(daily(8, TWO), 8);
        Edges.lay(0, 0, 0, 0, 1, 1, 1, 1);
        tried(2, 1, 0);
        Edges.laid("0 and 5", 1, 0, 0, 0, 1, 0, 1, 1);
        Edges.lay(0, 0, 0, 0, 1, 1, 1, 1);
        tried(3, 2, 0);
        Edges.laid("then 0 and 1", 0, 1, 0, 0, 1, 0, 1, 1);
        Edges.lay(0, 0, 0, 0, 1, 1, 1, 1);
        tried(18, 2, 0);
        Edges.lay(0, 0, 0, 0, 1, 1, 1, 1);
        tried(19, 2, 1);
        Edges.is("worst", Edges.x.worst(0), 720720);
    }

    private static void swapsCall() {
        Edges.sentence("III: SWAPS: at most so many are tried in all (1 .. 1000)");
        Edges.house(daily(64, TWO), 64);
        Edges.is("32 times 32 pairs", Edges.round(0, "a b"), 64);
        tried(1, 0, 0);
        tried(999, 0, 0);
        tried(1000, 0, 0);
        Edges.house(daily(62, TWO), 62);
        Edges.is("961 pairs", Edges.round(0, "a b"), 62);
        tried(960, 0, 0);
        tried(961, 0, 1);
        tried(1000, 0, 1);
        thousandPairs();
        Edges.sentence("26: NONE when it can't be");
        Edges.house(daily(4, TWO), 4);
        Edges.lay(0, 0, 1, 1);
        int[] not = {0, -1, 1001, 1002, Integer.MAX_VALUE, Integer.MIN_VALUE};
        for (int tries : not) {
            Edges.is("swaps(" + tries + ")", Edges.x.swaps(tries), -1);
            Edges.is("no swaps() was", Edges.x.ended(), -1);
        }
        Edges.laid("all stays", 0, 0, 1, 1);
        Edges.is("1000", Edges.x.swaps(1000), 1);
    }

    private static void ended() {
        Edges.sentence("27: NONE without one");
        Edges.is("new", Edges.x.ended(), -1);
        Edges.house(daily(4, TWO), 4);
        Edges.is("step", Edges.x.step(-1), 4);
        Edges.is("none yet", Edges.x.ended(), -1);
        Edges.sentence("27: 1 all pairs were gone over: also when there is none");
        tried(1, 0, 1);
        Edges.house(daily(4, TWO), 4);
        tried(1, 0, 1);
        Edges.sentence("27: 0 a SWAP was left when so many were tried, 1 when none was");
        Edges.house(daily(2, TWO), 2);
        Edges.lay(0, 1);
        tried(1, 0, 1);
        Edges.house(daily(3, TWO), 3);
        Edges.lay(0, 1, 0);
        tried(1, 0, 0);
        tried(2, 0, 1);
        tried(1, 0, 0);
        Edges.sentence("27: the latest swaps()");
        Edges.house(daily(3, TWO), 3);
        Edges.lay(0, 1, 0);
        tried(1, 0, 0);
        Edges.is("step", Edges.x.step(-1), 3);
        Edges.is("it stays", Edges.x.ended(), 0);
        tried(2, 0, 1);
        Edges.lay(1, 1, 1);
        Edges.is("it stays", Edges.x.ended(), 1);
    }

    /** 25 turns of a, 40 of b, and c who has none and is farthest behind: no swap changes WORST. */
    private static void thousandPairs() {
        Edges.house(daily(65, THREE), 65);
        for (int turn = 0; turn < 65; turn++) {
            Edges.is("set", Edges.x.set(turn, turn % 13 < 5 ? 0 : 1), true);
        }
        Edges.is("worst is c's", Edges.x.worst(2), 2);
        tried(999, 0, 0);
        tried(1000, 0, 1);
        Edges.is("one more of a", Edges.x.set(64, 0), true);
        tried(1000, 0, 0);
    }

    private static void manyTurns() {
        Edges.sentence("III: BETTER: by WORST of all: also of the first PERSON, also of another KIND");
        Edges.house(daily(4, THREE), 4);
        Edges.lay(1, 1, 2, 2);
        tried(1000, 0, 1);
        Edges.laid("a is farthest behind all the time", 1, 1, 2, 2);
        Edges.house("days 4;" + TWO + "kind l weighs 1;kind k weighs 1;turn l on day=0;turn k on all;turn l on day=0;turn l on day=0;", 7);
        Edges.lay(-1, -1, -1, 0, 0, 1, 1);
        Edges.is("worst is of l", Edges.x.worst(1), 0);
        tried(1000, 0, 1);
        Edges.laid("all of l are open", -1, -1, -1, 0, 0, 1, 1);
        Edges.sentence("III: SWAPS of 200 TURNS, the first and the last");
        Edges.house(daily(200, TWO) + "never a k on day=0;", 200);
        Edges.is("set", Edges.x.set(0, 0) && Edges.x.set(199, 1), true);
        tried(1, 1, 0);
        Edges.is("the first", Edges.x.turn(0, 3), 1);
        Edges.is("the last", Edges.x.turn(199, 3), 0);
        tried(1, 0, 1);
        Edges.house(daily(200, TWO) + "never a k on day=199;", 200);
        Edges.is("b alone", Edges.round(0, "b"), 200);
        Edges.is("but for the last", Edges.x.set(199, 0), true);
        Edges.is("one bar", Edges.x.bars(), 1);
        tried(1, 1, 0);
        Edges.is("the first", Edges.x.turn(0, 3), 0);
        Edges.is("no bar", Edges.x.bars(), 0);
    }

    // ---- by their own definition

    /** Bars and WORST of a rota, asked of an object made for it. */
    private static long[] measured(String text, int[] counts, int[] serves) {
        EvenRota rota = new EvenRota();
        Feeding.house(rota, text);
        for (int turn = 0; turn < counts.length; turn++) {
            if (counts[turn] >= 0) {
                rota.set(turn, counts[turn]);
                rota.give(turn, serves[turn]);
            }
        }
        return new long[] {rota.bars(), rota.worst(0)};
    }

    private static void exchange(int[] row, int i, int j) {
        int kept = row[i];
        row[i] = row[j];
        row[j] = kept;
    }

    private static int triesLeft;

    /** The first swap that makes it better stays done; false if none does, or no tries are left. */
    private static boolean swapOne(String text, int[] counts, int[] serves) {
        long[] now = measured(text, counts, serves);
        for (int i = 0; i < counts.length; i++) {
            for (int j = i + 1; j < counts.length; j++) {
                if (counts[i] < 0 || counts[j] < 0 || counts[i] == counts[j]) {
                    continue;
                }
                triesLeft--;
                if (triesLeft < 0) {
                    return false;
                }
                exchange(counts, i, j);
                exchange(serves, i, j);
                long[] then = measured(text, counts, serves);
                if (then[0] < now[0] || then[0] == now[0] && then[1] < now[1]) {
                    return true;
                }
                exchange(counts, i, j);
                exchange(serves, i, j);
            }
        }
        return false;
    }

    private static void byDefinition() {
        Edges.sentence("III: SWAPS, tried one by one on objects made for it");
        for (int house = 0; house < HOUSES.length; house++) {
            for (int seed = 0; seed < 40; seed++) {
                Edges.renew();
                int turns = Edges.read(HOUSES[house]);
                oneByOne(HOUSES[house], turns, new Random(100 * house + seed));
            }
        }
    }

    private static void oneByOne(String text, int turns, Random lots) {
        int persons = Edges.x.has(1);
        int[] counts = new int[turns];
        int[] serves = new int[turns];
        for (int turn = 0; turn < turns; turn++) {
            counts[turn] = lots.nextInt(9) == 0 ? -1 : lots.nextInt(persons);
            serves[turn] = counts[turn] < 0 ? -1 : lots.nextInt(4) == 0 ? lots.nextInt(persons) : counts[turn];
            Edges.x.set(turn, counts[turn]);
            Edges.x.give(turn, serves[turn]);
        }
        int tries = lots.nextInt(3) == 0 ? 1000 : 1 + lots.nextInt(60);
        triesLeft = tries;
        int done = 0;
        while (swapOne(text, counts, serves)) {
            done++;
        }
        tried(tries, done, triesLeft < 0 ? 0 : 1);
        Edges.counts(text, counts);
        Edges.serves(text, serves);
    }

    public static void main(String[] args) {
        better();
        swap();
        swaps();
        swapsCall();
        ended();
        manyTurns();
        byDefinition();
        Edges.finish("SwapEdges");
    }
}
