import java.util.ArrayList;
import java.util.List;

/** Turns a text or a row of bytes into the calls of feed and end that put it on an empty tape. */
final class Feeding {
    private Feeding() {
    }

    static byte[] bytes(String text) {
        byte[] bytes = new byte[text.length()];
        for (int i = 0; i < bytes.length; i++) {
            bytes[i] = (byte) text.charAt(i);
        }
        return bytes;
    }

    /** Five numbers for each call of feed. */
    static List<int[]> feeds(byte[] bytes) {
        List<int[]> all = new ArrayList<>();
        for (int at = 0; at < bytes.length; at += 20) {
            int[] five = new int[5];
            for (int i = 0; i < 20; i++) {
                int b = at + i < bytes.length ? bytes[at + i] & 255 : 'x';
                five[i / 4] = five[i / 4] << 8 | b;
            }
            all.add(five);
        }
        return all;
    }

    static void put(BoughtKin x, byte[] bytes) {
        for (int[] five : feeds(bytes)) {
            x.feed(five[0], five[1], five[2], five[3], five[4]);
        }
        x.end(bytes.length);
    }

    static void put(BoughtKin x, String text) {
        put(x, bytes(text));
    }
}
