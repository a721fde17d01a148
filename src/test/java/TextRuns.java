import java.util.ArrayList;
import java.util.List;
import java.util.Random;

/** Houses with pieces lost, doubled, changed or joined: EvenRota and PlainRota must find the same fault. */
public final class TextRuns {
    /** An object is good for 512 calls. */
    private static final int TEXTS_OF_ONE = 3;
    private static final String[] PIECES = {"days", "person", "part", "from", "to", "kind", "weighs", "turn", "on",
        "never", "rest", "apart", "beside", "or", "and", "not", "all", "day", "week", "weekday", "a", "b", "c", "k", "m",
        "abcdef", "abcdefg", "weekdays", "daysof", "0", "1", "7", "16", "30", "31", "199", "200", "201", "9999", "10000",
        "12345", "0001", "00001", ";", "(", ")", "[", "]", "<", ">", "=", "+", "-", "*", "/", "%", "!", "A", "\t", "\u00ff"};

    private final Random lots;

    private TextRuns(long seed) {
        lots = new Random(seed);
    }

    private boolean oneIn(int many) {
        return lots.nextInt(many) == 0;
    }

    private String oneOf(String... some) {
        return some[lots.nextInt(some.length)];
    }

    private void tell(List<String> told, String text) {
        for (String piece : text.split(" ")) {
            told.add(piece);
        }
    }

    private void sum(List<String> told, int depth) {
        for (boolean more = true; more; more = oneIn(4)) {
            if (depth > 0 && oneIn(3)) {
                told.add("(");
                sum(told, depth - 1);
                told.add(")");
            } else {
                told.add(oneOf("1", "7", "0", "day", "week", "weekday", "9999"));
            }
            told.add(oneOf("+", "-", "*", "/", "%"));
        }
        told.remove(told.size() - 1);
    }

    private void test(List<String> told, int depth) {
        for (boolean more = true; more; more = oneIn(5)) {
            if (depth > 0 && oneIn(4)) {
                told.add("not");
                test(told, depth - 1);
            } else if (depth > 0 && oneIn(3)) {
                told.add("[");
                test(told, depth - 1);
                told.add("]");
            } else if (oneIn(5)) {
                told.add("all");
            } else {
                sum(told, depth);
                told.add(oneOf("<", ">", "="));
                sum(told, depth);
            }
            told.add(oneOf("and", "or"));
        }
        told.remove(told.size() - 1);
    }

    private List<String> house() {
        List<String> told = new ArrayList<>();
        int people = oneIn(30) ? 17 : 3;
        int kinds = oneIn(30) ? 7 : 2;
        for (int n = 0; n < people; n++) {
            tell(told, "person " + (char) ('a' + (n < 10 ? n : n + 3)) + " part 1 from 0 to " + oneOf("0", "9", "199") + " ;");
        }
        for (int n = 0; n < kinds; n++) {
            tell(told, "kind " + (n < 2 ? "km".charAt(n) : (char) ('r' + n)) + " weighs " + oneOf("0", "9") + " ;");
        }
        int others = oneIn(20) ? 61 : lots.nextInt(6);
        for (int n = 0; n < others; n++) {
            switch (lots.nextInt(others > 50 ? 3 : 6)) {
                case 0 -> tell(told, "apart a b ;");
                case 1 -> tell(told, "rest k m 30 ;");
                case 2 -> tell(told, "beside c a ;");
                case 3 -> tell(told, "days " + oneOf("1", "20", "200") + " ;");
                case 4 -> {
                    tell(told, "never a k on");
                    test(told, lots.nextInt(8));
                    told.add(";");
                }
                default -> {
                    tell(told, "turn " + oneOf("k", "m") + " on");
                    test(told, lots.nextInt(8));
                    told.add(";");
                }
            }
        }
        return told;
    }

    private String text() {
        List<String> told = house();
        for (int n = lots.nextInt(3); n > 0 && told.size() > 2; n--) {
            int at = lots.nextInt(told.size());
            switch (lots.nextInt(5)) {
                case 0 -> told.remove(at);
                case 1 -> told.add(at, told.get(lots.nextInt(told.size())));
                case 2 -> told.set(at, oneOf(PIECES));
                case 3 -> told.add(at, oneOf(PIECES));
                default -> told.subList(at, told.size()).clear();
            }
        }
        StringBuilder text = new StringBuilder();
        char last = ' ';
        for (String piece : told) {
            boolean needed = Character.isLetterOrDigit(last) && Character.isLetterOrDigit(piece.charAt(0));
            text.append(needed && !oneIn(300) || oneIn(8) ? oneOf(" ", " ", "\n", "  ") : "").append(piece);
            last = piece.charAt(piece.length() - 1);
        }
        text.append(oneIn(9) ? " " : "");
        return text.length() > 900 ? text.substring(0, 900) : text.toString();
    }

    public static void main(String[] args) {
        int failed = 0;
        int[] found = new int[7];
        int runs = args.length > 1 ? Integer.parseInt(args[1]) : 12000;
        EvenRota rota = new EvenRota();
        PlainRota plain = new PlainRota();
        for (int seed = 0; seed < runs && failed < 5; seed++) {
            if (seed % TEXTS_OF_ONE == 0) {
                rota = new EvenRota();
                plain = new PlainRota();
            }
            String text = new TextRuns(seed).text();
            int got = Feeding.house(rota, text);
            plain.tape = text;
            int want = plain.house();
            found[plain.fault(0)]++;
            boolean same = got == want && rota.fault(0) == plain.fault(0) && rota.fault(1) == plain.fault(1);
            for (int what = 0; what < 6; what++) {
                same &= rota.has(what) == plain.has(what);
            }
            for (int turn = 0; turn < Math.min(plain.has(3), 50) && got >= 0; turn++) {
                same &= rota.turn(turn, 0) == plain.turn(turn, 0) && rota.due(0, turn) == plain.due(0, turn);
            }
            if (!same) {
                failed++;
                System.out.println("'" + text + "': " + got + " with " + rota.fault(0) + " at " + rota.fault(1)
                    + ", due is " + want + " with " + plain.fault(0) + " at " + plain.fault(1));
            }
        }
        for (int fault = 0; fault < found.length; fault++) {
            if (found[fault] == 0) {
                failed++;
                System.out.println("no text had the fault " + fault);
            }
        }
        System.out.println("TextRuns: " + runs + " texts, " + failed + " failed");
        System.exit(failed == 0 ? 0 : 1);
    }
}
