import java.lang.reflect.InvocationTargetException;
import java.lang.reflect.Method;
import java.lang.reflect.Modifier;
import java.util.ArrayList;
import java.util.Comparator;
import java.util.List;
import java.util.Random;

/** Any calls with any arguments in any state: none may throw, and none may run on for long. */
public final class AnyCalls {
    private static final int[] INTS = {0, 1, 2, 3, 5, 6, 15, 16, 17, 27, 28, 47, 48, 49, 199, 200, 201, 402, 403, 899, 900,
        901, 1000, 1001, 720720, 720721, -1, -2, -3, Integer.MAX_VALUE, Integer.MIN_VALUE, Integer.MAX_VALUE - 1, 0x3b3b3b3b};
    private static final long[] LONGS = {0, 1, -1, 720720, 1441440, Long.MAX_VALUE, Long.MIN_VALUE};
    private static final String[] HOUSES = {
        "",
        "kind k weighs 9;turn k on all;",
        "person a part 9 from 0 to 199;person b part 7 from 3 to 9;",
        "days 200;person a part 1 from 0 to 199;person b part 2 from 0 to 199;kind k weighs 9;turn k on all;rest k k 30;",
        "days 100;person a part 1 from 0 to 199;person b part 2 from 0 to 199;person c part 1 from 5 to 50;kind k weighs 9;"
            + "kind m weighs 0;kind n weighs 4;turn k on all;turn m on weekday<3;turn n on day%5=2;rest k m 2;rest m k 1;"
            + "apart a c;beside a b;never c m on week>2;",
        "days 40;person a part 1 from 0 to 199;person b part 1 from 0 to 199;person c part 1 from 0 to 199;"
            + "person d part 1 from 0 to 199;person e part 1 from 0 to 199;person f part 1 from 0 to 199;"
            + "kind k weighs 1;turn k on all;turn k on all;turn k on weekday=5;",
        "turn k on not not not not not not not all;", "days 200;kind k weighs 1;turn k on all;turn k on all;"};
    private static final String[] ROWS = {"a", "a b", "b b a c", "a 1", "f e d c b a"};

    private AnyCalls() {
    }

    private static Object some(Random lots, Class<?> type) {
        if (type == boolean.class) {
            return lots.nextBoolean();
        }
        if (type == long.class) {
            return LONGS[lots.nextInt(LONGS.length)];
        }
        return lots.nextInt(3) == 0 ? Integer.valueOf(lots.nextInt(9) - 1) : Integer.valueOf(INTS[lots.nextInt(INTS.length)]);
    }

    public static void main(String[] args) throws IllegalAccessException {
        List<Method> face = new ArrayList<>();
        for (Method method : EvenRota.class.getDeclaredMethods()) {
            if (Modifier.isPublic(method.getModifiers())) {
                face.add(method);
            }
        }
        face.sort(Comparator.comparing(Method::getName));
        int wrong = 0;
        for (int run = 0; run < 150 && wrong < 5; run++) {
            Random lots = new Random(run);
            EvenRota rota = new EvenRota();
            for (int n = 0; n < 512 && wrong < 5; n++) {
                if (lots.nextInt(20) == 0) {
                    Feeding.house(rota, HOUSES[lots.nextInt(HOUSES.length)]);
                } else if (lots.nextInt(10) == 0) {
                    Feeding.put(rota, ROWS[lots.nextInt(ROWS.length)]);
                }
                Method method = face.get(lots.nextInt(face.size()));
                Object[] given = new Object[method.getParameterCount()];
                for (int k = 0; k < given.length; k++) {
                    given[k] = some(lots, method.getParameterTypes()[k]);
                }
                long began = System.nanoTime();
                try {
                    method.invoke(rota, given);
                } catch (InvocationTargetException thrown) {
                    wrong++;
                    System.out.println(method.getName() + java.util.Arrays.toString(given) + " threw " + thrown.getCause());
                }
                if (System.nanoTime() - began > 5000000000L) {
                    wrong++;
                    System.out.println(method.getName() + java.util.Arrays.toString(given) + " ran on and on");
                }
            }
        }
        System.out.println("AnyCalls: " + wrong + " wrong");
        System.exit(wrong == 0 ? 0 : 1);
    }
}
