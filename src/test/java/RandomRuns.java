import java.lang.reflect.Method;
import java.util.ArrayList;
import java.util.HashMap;
import java.util.List;
import java.util.Map;
import java.util.Random;

/** Runs of calls by lot, each answered by EvenRota and by PlainRota; both must say the same. */
public final class RandomRuns {
    private static final Map<String, Method> ROTA = methods(EvenRota.class);
    private static final Map<String, Method> PLAIN = methods(PlainRota.class);

    private static final int MOST_CALLS = 512;

    private final Random lots;
    private final EvenRota rota = new EvenRota();
    private final PlainRota plain = new PlainRota();
    private final List<String> log = new ArrayList<>();
    private boolean wrong = false;
    private int calls = 0;
    private int persons = 0;
    private int kinds = 0;
    private int turns = 0;
    private int days = 28;

    private RandomRuns(long seed) {
        lots = new Random(seed);
    }

    private static Map<String, Method> methods(Class<?> type) {
        Map<String, Method> found = new HashMap<>();
        for (Method method : type.getDeclaredMethods()) {
            if (java.lang.reflect.Modifier.isPublic(method.getModifiers())) {
                found.put(method.getName(), method);
            }
        }
        return found;
    }

    /** Once the object's calls are used up nothing is called any more. */
    private Object call(String name, Object... args) {
        calls++;
        if (calls > MOST_CALLS) {
            return -1;
        }
        try {
            Object got = ROTA.get(name).invoke(rota, args);
            Object want = PLAIN.get(name).invoke(plain, args);
            log.add(name + java.util.Arrays.toString(args) + " -> " + got);
            if (!got.equals(want)) {
                wrong = true;
                log.add("    but due is " + want);
            }
            return got;
        } catch (ReflectiveOperationException thrown) {
            wrong = true;
            log.add(name + java.util.Arrays.toString(args) + " threw " + thrown.getCause());
            return -1;
        }
    }

    private void put(String text) {
        calls += 2 + (text.length() + 19) / 20;
        if (calls > MOST_CALLS) {
            return;
        }
        Feeding.put(rota, text);
        plain.tape = text;
        log.add("tape: " + text.replace("\n", "\\n"));
    }

    private int below(int bound) {
        return lots.nextInt(bound);
    }

    private boolean oneIn(int many) {
        return lots.nextInt(many) == 0;
    }

    private String blank() {
        return oneIn(12) ? "\n " : " ";
    }

    private String maybeBlank() {
        return oneIn(6) ? blank() : "";
    }

    // ---- texts

    private String part(int depth) {
        switch (below(depth > 0 ? 8 : 7)) {
            case 0:
            case 1:
                return String.valueOf(below(12));
            case 2:
                return oneIn(5) ? String.valueOf(below(10000)) : String.valueOf(below(40));
            case 3:
            case 4:
                return "day";
            case 5:
                return "weekday";
            case 6:
                return "week";
            default:
                return "(" + maybeBlank() + sum(depth - 1) + maybeBlank() + ")";
        }
    }

    private String sum(int depth) {
        StringBuilder text = new StringBuilder(part(depth));
        for (int n = 0; n < 3 && oneIn(3); n++) {
            text.append(maybeBlank()).append("+-*/%".charAt(below(5))).append(maybeBlank()).append(part(depth));
        }
        return text.toString();
    }

    private String fact(int depth) {
        switch (below(10)) {
            case 0:
                return depth > 0 ? "not " + fact(depth - 1) : "all";
            case 1:
                return depth > 0 ? "[" + test(depth - 1) + "]" : "all";
            case 2:
                return "all";
            default:
                return sum(depth) + maybeBlank() + "<>=".charAt(below(3)) + maybeBlank() + sum(depth);
        }
    }

    private String test(int depth) {
        StringBuilder text = new StringBuilder(fact(depth));
        for (int n = 0; n < 3 && oneIn(4); n++) {
            text.append(oneIn(2) ? " and " : " or ").append(fact(depth));
        }
        return text.toString();
    }

    private static String personName(int person) {
        return "abcdefghijklmnop".charAt(person) + (person % 3 == 0 ? "nn" : "");
    }

    private static String kindName(int kind) {
        return "x" + "qrstuv".charAt(kind) + (kind == 2 ? "long" : "");
    }

    private String house() {
        int somePersons = oneIn(10) ? below(17) : below(5) + 1;
        int someKinds = oneIn(10) ? below(7) : below(3) + 1;
        int someDays = oneIn(6) ? below(200) + 1 : below(20) + 1;
        boolean whole = oneIn(2);
        List<String> told = new ArrayList<>();
        int parts = 0;
        told.add("days " + someDays);
        for (int n = 0; n < somePersons; n++) {
            int part = oneIn(2) ? 1 : below(4) + 1;
            if (parts + part > 16 && !oneIn(20)) {
                somePersons = n;
                break;
            }
            parts += part;
            int from = whole || oneIn(2) ? 0 : below(someDays);
            int to = whole || oneIn(2) ? 199 : Math.min(199, from + below(someDays));
            told.add("person " + personName(n) + " part " + part + " from " + from + " to" + blank() + to);
        }
        for (int n = 0; n < someKinds; n++) {
            told.add("kind " + kindName(n) + " weighs " + below(10));
        }
        int others = below(9) + 1;
        for (int n = 0; n < others; n++) {
            told.add(other(somePersons, someKinds, whole));
        }
        StringBuilder text = new StringBuilder();
        for (String statement : told) {
            text.append(statement).append(maybeBlank()).append(';').append(maybeBlank());
        }
        return text.toString();
    }

    private String other(int somePersons, int someKinds, boolean whole) {
        String kind = kindName(below(Math.max(1, someKinds)));
        String person = personName(below(Math.max(1, somePersons)));
        switch (below(10)) {
            case 0:
            case 1:
                return whole ? "turn " + kind + " on all" : "never " + person + " " + kind + " on " + test(2);
            case 2:
                return "rest " + kind + " " + kindName(below(Math.max(1, someKinds))) + " " + (below(oneIn(4) ? 30 : 3) + 1);
            case 3:
                return "apart " + person + " " + personName(below(Math.max(2, somePersons)));
            case 4:
                return "beside " + person + " " + personName(below(Math.max(2, somePersons)));
            default:
                return "turn " + kind + " on " + (oneIn(4) ? "all" : test(below(7)));
        }
    }

    /** A few bytes changed, lost, doubled, or a piece moved. */
    private String spoil(String text) {
        StringBuilder spoilt = new StringBuilder(text);
        for (int n = 0; n <= below(2) && spoilt.length() > 2; n++) {
            int at = below(spoilt.length());
            switch (below(5)) {
                case 0:
                    spoilt.deleteCharAt(at);
                    break;
                case 1:
                    spoilt.insert(at, "az09 ;([+<\nA\u00e9".charAt(below(13)));
                    break;
                case 2:
                    spoilt.setCharAt(at, "az09 ;([])+<%".charAt(below(13)));
                    break;
                case 3:
                    spoilt.setLength(at);
                    break;
                default:
                    String[] pieces = {" days ", " 12345 ", " abcdefg ", "not ", "not not not not ", "((((", "weekdays",
                        " weekday ", "person ", " xq ", " ann ", "200", ";;", "0"};
                    spoilt.insert(at, pieces[below(pieces.length)]);
            }
        }
        return spoilt.toString();
    }

    // ---- runs

    private void takeHouse() {
        String text = house();
        if (oneIn(3)) {
            text = spoil(text);
        }
        if (text.length() > 900) {
            text = text.substring(0, 900);
        }
        put(text);
        call("house");
        call("fault", 0);
        call("fault", 1);
        learn();
    }

    private void learn() {
        days = (Integer) call("has", 0);
        persons = (Integer) call("has", 1);
        kinds = (Integer) call("has", 2);
        turns = (Integer) call("has", 3);
        call("has", 4);
        call("has", 5);
    }

    private int someOf(int many) {
        return oneIn(25) ? new int[] {-2, -1, many, many + 1, Integer.MAX_VALUE, Integer.MIN_VALUE}[below(6)]
            : many <= 0 ? below(2) - 1 : below(many);
    }

    private int kindOrNone() {
        return oneIn(3) ? -1 : someOf(kinds);
    }

    private int share() {
        int[] some = {0, 720720, 360360, 240240, 480480, 720721, -1, 90090};
        return oneIn(3) ? some[below(some.length)] : below(720721);
    }

    private String row() {
        StringBuilder text = new StringBuilder();
        int many = oneIn(15) ? below(23) : below(5) + 1;
        for (int n = 0; n < many; n++) {
            int person = someOf(persons);
            text.append(person >= 0 && person < 16 ? personName(person) : "zz").append(n < many - 1 ? blank() : "");
        }
        return oneIn(12) ? spoil(text.append(blank()).toString()) : text.toString();
    }

    private String picture() {
        int length = (Integer) call("image");
        calls += Math.max(0, length);
        if (calls > MOST_CALLS) {
            return "";
        }
        StringBuilder text = new StringBuilder();
        for (int k = 0; k < length; k++) {
            text.append((char) rota.octet(k));
        }
        if (oneIn(3) && length > 3) {
            text.setCharAt(1 + below(length - 3), (char) (oneIn(2) ? 255 : below(6)));
            int sum = 0;
            int mixed = 0;
            for (int k = 0; k < length - 2; k++) {
                sum += text.charAt(k);
                mixed ^= text.charAt(k);
            }
            text.setCharAt(length - 2, (char) (sum & 255));
            text.setCharAt(length - 1, (char) mixed);
        } else if (oneIn(6)) {
            return spoil(text.toString()).replaceAll("[^\\x00-\\xff]", "?");
        }
        return text.toString();
    }

    private void readAll() {
        call("bars");
        call("first");
        for (int what = -1; what < 4; what++) {
            call("worst", what);
        }
        for (int turn = 0; turn < turns && turn < 30; turn++) {
            call("turn", turn, 2);
            call("turn", turn, 3);
            call("turn", turn, 4);
        }
    }

    private void askSomething() {
        switch (below(16)) {
            case 0 -> call("letter", oneIn(2), someOf(Math.max(persons, kinds)), below(8) - 1);
            case 1 -> call("turn", someOf(turns), below(8) - 1);
            case 2 -> call("may", someOf(persons), someOf(turns));
            case 3 -> call("due", someOf(persons), someOf(turns));
            case 4 -> call("level", someOf(persons), kindOrNone(), someOf(turns + 1));
            case 5 -> call("gap", someOf(persons), kindOrNone());
            case 6 -> call("stretch", someOf(persons), kindOrNone(), oneIn(2));
            case 7 -> call("could", someOf(turns));
            case 8 -> call("behind", someOf(turns));
            case 9 -> call("owes", someOf(persons), someOf(persons));
            case 10 -> call("meet", someOf(persons), someOf(persons));
            case 11 -> call("meets", oneIn(2));
            case 12 -> call("cut", below(4) - 1);
            case 13 -> call("ended");
            case 14 -> call("octet", someOf(2 * turns + 4));
            default -> call("has", below(8) - 1);
        }
    }

    private void doSomething() {
        switch (below(20)) {
            case 0, 1 -> call("step", oneIn(2) ? -1 : oneIn(9) ? -2 : oneIn(9) ? Integer.MAX_VALUE : below(Integer.MAX_VALUE));
            case 2 -> {
                put(row());
                call("round", someOf(kinds));
            }
            case 3 -> {
                put(row());
                call("block", someOf(kinds));
            }
            case 4, 5 -> {
                int both = share();
                call("even", someOf(kinds), both, oneIn(2) ? both : share());
                call("cut", 0);
                call("cut", 1);
            }
            case 6 -> {
                int least = (Integer) call("least", someOf(kinds));
                if (least >= 0) {
                    call("even", someOf(kinds), least, least);
                }
            }
            case 7 -> call("cycle", oneIn(4) ? below(52) - 1 : (Integer) call("has", 4) * (below(3) + 1));
            case 8, 9, 10 -> {
                if (turns < 60 || persons < 6) {
                    call("swaps", turns > 40 ? below(20) : oneIn(3) ? 1000 : below(60));
                    call("ended");
                }
            }
            case 11, 12, 13 -> {
                if (persons < 6) {
                    int from = oneIn(8) ? below(days + 2) - 1 : 0;
                    long bound = oneIn(3) ? 720720L * 100 : oneIn(9) ? -1 : 720720L + lots.nextInt(720720 * 2);
                    int to = oneIn(8) ? 197 + below(5) : from + below(days + 2) - 1;
                    call("ill", someOf(persons), from, to, bound);
                }
            }
            case 14 -> {
                put(picture());
                call("on");
            }
            case 15 -> takeHouse();
            default -> {
                for (int n = 0; n < 4; n++) {
                    call(oneIn(2) ? "set" : "give", someOf(turns), someOf(persons));
                }
            }
        }
    }

    private boolean run() {
        for (int n = 0; n < 8 && !wrong && turns == 0; n++) {
            takeHouse();
        }
        for (int n = 0; n < 25 && !wrong && calls < MOST_CALLS; n++) {
            doSomething();
            for (int k = 0; k < 4; k++) {
                askSomething();
            }
            if (oneIn(4)) {
                readAll();
            }
        }
        return !wrong;
    }

    public static void main(String[] args) {
        long from = args.length > 1 ? Long.parseLong(args[1]) : 1;
        long to = args.length > 2 ? Long.parseLong(args[2]) : 1200;
        int failed = 0;
        for (long seed = from; seed <= to && failed < 3; seed++) {
            RandomRuns run = new RandomRuns(seed);
            if (!run.run()) {
                failed++;
                System.out.println("run by lot " + seed + ":");
                int keep = Math.min(run.log.size(), 30);
                run.log.subList(run.log.size() - keep, run.log.size()).forEach(System.out::println);
            }
        }
        System.out.println("RandomRuns: " + (to - from + 1) + " runs, " + failed + " failed");
        System.exit(failed == 0 ? 0 : 1);
    }
}
