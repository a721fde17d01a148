import java.nio.charset.StandardCharsets;

/** Puts texts on the tape of a rota. */
final class Feeding {
    private Feeding() {
    }

    static void put(EvenRota rota, String text) {
        put(rota, text.getBytes(StandardCharsets.ISO_8859_1));
    }

    static void put(EvenRota rota, byte[] bytes) {
        int[] five = new int[5];
        rota.end(0);
        for (int at = 0; at < bytes.length; at += 20) {
            for (int n = 0; n < 5; n++) {
                five[n] = 0;
                for (int k = 0; k < 4; k++) {
                    int from = at + 4 * n + k;
                    five[n] = five[n] << 8 | (from < bytes.length ? bytes[from] & 255 : 0);
                }
            }
            rota.feed(five[0], five[1], five[2], five[3], five[4]);
        }
        rota.end(bytes.length);
    }

    static int house(EvenRota rota, String text) {
        put(rota, text);
        return rota.house();
    }
}
