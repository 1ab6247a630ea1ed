import java.util.ArrayList;
import java.util.List;

/** Puts a text upon the tape of a SunTable. */
final class Texts {
    private Texts() {
    }

    /** A text as rows of five numbers, filled up with zero bytes. */
    static List<int[]> fives(String text) {
        List<int[]> rows = new ArrayList<>();
        for (int at = 0; at < text.length(); at += 20) {
            int[] five = new int[5];
            for (int i = 0; i < 20; i++) {
                int c = at + i < text.length() ? text.charAt(at + i) : 0;
                five[i / 4] = five[i / 4] << 8 | c;
            }
            rows.add(five);
        }
        return rows;
    }

    static void put(SunTable x, String text) {
        x.end(0);
        for (int[] f : fives(text)) {
            x.feed(f[0], f[1], f[2], f[3], f[4]);
        }
        x.end(text.length());
    }

    static int table(SunTable x, String text) {
        put(x, text);
        return x.table();
    }

    static int rule(SunTable x, String text) {
        put(x, text);
        return x.rule();
    }
}
