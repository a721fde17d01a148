/** EVEN, LEAST and CYCLE against all rows of persons there are: what can be is laid, what is refused can't be. */
public final class EvenTest {
    private static final int WHOLE = 720720;
    private static int wrong = 0;

    private EvenTest() {
    }

    private static void is(String what, long got, long want) {
        if (got != want) {
            wrong++;
            System.out.println(what + " answered " + got + ", due is " + want);
        }
    }

    private static String house(int days, int[] parts) {
        StringBuilder text = new StringBuilder("days " + days + ";kind k weighs 1;turn k on all;");
        for (int n = 0; n < parts.length; n++) {
            text.append("person ").append((char) ('a' + n)).append(" part ").append(parts[n]).append(" from 0 to 199;");
        }
        return text.toString();
    }

    private static int sum(int[] parts) {
        int sum = 0;
        for (int part : parts) {
            sum += part;
        }
        return sum;
    }

    /** The least that the farthest level can be, over all ways to go on from a turn. */
    private static long leastFrom(int turn, int days, int[] parts, int[] had, long sofar, long best) {
        if (sofar >= best || turn == days) {
            return Math.min(sofar, best);
        }
        long least = best;
        for (int who = 0; who < parts.length; who++) {
            had[who]++;
            long farthest = sofar;
            for (int each = 0; each < parts.length; each++) {
                long level = (long) had[each] * WHOLE - (turn + 1L) * parts[each] * (WHOLE / sum(parts));
                farthest = Math.max(farthest, Math.abs(level));
            }
            least = leastFrom(turn + 1, days, parts, had, farthest, least);
            had[who]--;
        }
        return least;
    }

    private static boolean canBe(int turn, int days, int[] parts, int[] had, int ahead, int behind) {
        if (turn == days) {
            return true;
        }
        for (int who = 0; who < parts.length; who++) {
            had[who]++;
            boolean within = true;
            for (int each = 0; each < parts.length; each++) {
                long level = (long) had[each] * WHOLE - (turn + 1L) * parts[each] * (WHOLE / sum(parts));
                within &= level <= ahead && level >= -behind;
            }
            boolean can = within && canBe(turn + 1, days, parts, had, ahead, behind);
            had[who]--;
            if (can) {
                return true;
            }
        }
        return false;
    }

    private static void tryOne(int days, int[] parts) {
        EvenRota rota = new EvenRota();
        String text = house(days, parts);
        is(text, Feeding.house(rota, text), days);
        int least = rota.least(0);
        is("least of " + text, least, leastFrom(0, days, parts, new int[parts.length], 0, WHOLE));
        is("even by the least of " + text, rota.even(0, least, least), 1);
        if (least > 0) {
            is("even by less of " + text, rota.even(0, least - 1, least - 1), 0);
        }
        if (days % sum(parts) == 0) {
            is("cycle of " + text, rota.cycle(days), least);
        }
        int unit = WHOLE / sum(parts);
        for (int ahead = 0; ahead <= WHOLE; ahead += unit) {
            for (int behind = 0; behind <= WHOLE; behind += unit) {
                boolean can = canBe(0, days, parts, new int[parts.length], ahead, behind);
                EvenRota other = new EvenRota();
                Feeding.house(other, text);
                is("even " + ahead + " " + behind + " of " + text, other.even(0, ahead, behind), can ? 1 : 0);
                if (can) {
                    checkLevels(other, days, parts.length, ahead, behind);
                }
            }
        }
    }

    private static void checkLevels(EvenRota rota, int days, int persons, int ahead, int behind) {
        for (int person = 0; person < persons; person++) {
            for (int i = 1; i <= days; i++) {
                long level = rota.level(person, 0, i);
                is("within " + ahead + " and " + behind, level <= ahead && level >= -behind ? 1 : 0, 1);
            }
        }
    }

    public static void main(String[] args) {
        int[][] parts = {{1}, {4}, {1, 1}, {1, 2}, {2, 3}, {1, 4}, {7, 9}, {1, 1, 1}, {1, 2, 3}, {2, 2, 1}, {5, 3, 1},
            {9, 1, 6}, {1, 1, 1, 1}, {3, 2, 1, 1}, {6, 1, 1, 1}};
        for (int[] some : parts) {
            int most = some.length < 3 ? 10 : some.length == 3 ? 8 : 7;
            for (int days = 1; days <= most; days++) {
                tryOne(days, some);
            }
        }
        System.out.println("EvenTest: " + wrong + " wrong");
        System.exit(wrong == 0 ? 0 : 1);
    }
}
