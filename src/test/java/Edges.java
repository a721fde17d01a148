/**
 * What the tests of single sentences share: every check belongs to the sentence that was told last. No object is used for
 * more calls than the document allows: a house is put on a new one when the calls of the old one run out.
 */
final class Edges {
    private static final int MOST_CALLS = 512;
    /** How many calls are kept for what is asked of a house. */
    private static final int KEPT_CALLS = 100;
    static final int[] FAR = {-2, -3, 255, 256, 1000000, Integer.MAX_VALUE, Integer.MAX_VALUE - 1, Integer.MIN_VALUE,
        Integer.MIN_VALUE + 1};
    static final String KIND = "kind k weighs 1;";
    static final String DAILY = "turn k on all;";

    static EvenRota x = new EvenRota();
    private static String told = "";
    private static int sentences = 0;
    private static int checks = 0;
    private static int checksHere = 1;
    private static int wrong = 0;
    private static int calls = 0;
    private static boolean tooMany = false;

    private Edges() {
    }

    /** Begins the test of a sentence, with a new object. */
    static void sentence(String text) {
        closeSentence();
        told = text;
        sentences++;
        checksHere = 0;
        renew();
    }

    static void renew() {
        x = new EvenRota();
        calls = 0;
        tooMany = false;
    }

    private static void closeSentence() {
        if (checksHere == 0) {
            wrong++;
            System.out.println("[" + told + "] nothing was checked");
        }
    }

    static void is(String what, long got, long want) {
        checks++;
        checksHere++;
        calls++;
        if (calls > MOST_CALLS && !tooMany) {
            tooMany = true;
            wrong++;
            System.out.println("[" + told + "] " + what + ": the object was used for too many calls");
        }
        if (got != want) {
            wrong++;
            System.out.println("[" + told + "] " + what + " answered " + got + ", due is " + want);
        }
    }

    static void is(String what, boolean got, boolean want) {
        is(what, got ? 1 : 0, want ? 1 : 0);
    }

    static void finish(String name) {
        closeSentence();
        System.out.println(name + ": " + sentences + " sentences, " + checks + " answers, " + wrong + " wrong");
        System.exit(wrong == 0 ? 0 : 1);
    }

    // ---- houses

    static void put(String text) {
        calls += 2 + (text.length() + 19) / 20;
        Feeding.put(x, text);
    }

    static int read(String text) {
        if (calls + text.length() / 20 + KEPT_CALLS > MOST_CALLS) {
            renew();
        }
        put(text);
        return x.house();
    }

    /** The text is a house of so many turns, without a fault. */
    static void house(String text, int turns) {
        is("house of '" + text + "'", read(text), turns);
        is("fault of '" + text + "'", x.fault(0), 0);
        is("place of it", x.fault(1), -1);
    }

    static void sound(String text) {
        read(text);
        is("fault of '" + text + "'", x.fault(0), 0);
        is("place of it", x.fault(1), -1);
    }

    /** The text, but for the one ^ in it, has this fault at the byte behind the ^. */
    static void fault(int fault, String marked) {
        int place = marked.indexOf('^');
        String text = marked.substring(0, place) + marked.substring(place + 1);
        is("house of '" + text + "'", read(text), -1);
        is("fault of '" + text + "'", x.fault(0), fault);
        is("place of it", x.fault(1), place);
    }

    /** So many persons a, b, .. with one part each, whoever may on all days. */
    static String people(int many) {
        StringBuilder text = new StringBuilder();
        for (int n = 0; n < many; n++) {
            text.append(person((char) ('a' + n), 1));
        }
        return text.toString();
    }

    static String person(char name, int part) {
        return person(name, part, 0, 199);
    }

    static String person(char name, int part, int from, int to) {
        return "person " + name + " part " + part + " from " + from + " to " + to + ";";
    }

    /** Kinds k, l, .. of weight 1, each with one turn a day. */
    static String dailyKinds(int many) {
        StringBuilder text = new StringBuilder();
        for (char kind = 'k'; kind < 'k' + many; kind++) {
            text.append("kind ").append(kind).append(" weighs 1;turn ").append(kind).append(" on all;");
        }
        return text.toString();
    }

    static String times(int many, String text) {
        return text.repeat(many);
    }

    // ---- rotas

    /** Turn by turn from 0 on, each counts for one and is served by the same. */
    static void lay(int... persons) {
        for (int turn = 0; turn < persons.length; turn++) {
            is("set " + turn, x.set(turn, persons[turn]), true);
        }
    }

    static void counts(String what, int... want) {
        for (int turn = 0; turn < want.length; turn++) {
            is(what + ": turn " + turn + " counts for", x.turn(turn, 2), want[turn]);
        }
    }

    static void serves(String what, int... want) {
        for (int turn = 0; turn < want.length; turn++) {
            is(what + ": turn " + turn + " is served by", x.turn(turn, 3), want[turn]);
        }
    }

    static void laid(String what, int... want) {
        counts(what, want);
        serves(what, want);
    }

    static void bars(String what, int... want) {
        for (int turn = 0; turn < want.length; turn++) {
            is(what + ": bar of " + turn, x.turn(turn, 4), want[turn]);
        }
    }

    static int round(int kind, String row) {
        put(row);
        return x.round(kind);
    }

    static int block(int kind, String row) {
        put(row);
        return x.block(kind);
    }

    static boolean on(String bytes) {
        put(bytes);
        return x.on();
    }

    /** An image of these bytes, with the two that close it. */
    static String closed(int... bytes) {
        StringBuilder text = new StringBuilder();
        int sum = 0;
        int mixed = 0;
        for (int octet : bytes) {
            text.append((char) octet);
            sum += octet;
            mixed ^= octet;
        }
        return text.append((char) (sum % 256)).append((char) mixed).toString();
    }

    static String picture() {
        int length = x.image();
        calls += length;
        StringBuilder text = new StringBuilder();
        for (int k = 0; k < length; k++) {
            text.append((char) x.octet(k));
        }
        return text.toString();
    }
}
