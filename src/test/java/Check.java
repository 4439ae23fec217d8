import java.util.Random;

/** What the tests share: answers compared with those that are due, and texts fed. */
final class Check {
    private final String name;
    private int asked;
    private int wrong;

    Check(String name) {
        this.name = name;
    }

    void due(String call, long got, long want) {
        asked++;
        if (got != want) {
            wrong++;
            if (wrong <= 40) {
                System.out.println(name + ": " + call + " answered " + got + ", due is " + want);
            }
        }
    }

    boolean isWrong() {
        return wrong > 0;
    }

    /** Ends the test: with exit code 1 if an answer was not the one that is due. */
    void close() {
        System.out.println(name + ": " + asked + " answers, " + wrong + " not as due");
        if (wrong > 0 || asked == 0) {
            System.exit(1);
        }
    }

    /** The seed is spread first: of small seeds the first draws are nearly all alike. */
    static Random randomOf(long seed) {
        return new Random(seed * 0x9e3779b97f4a7c15L);
    }

    /** Puts a text (signs 0 to 255) on an empty TAPE. */
    static void type(StampOrder x, String text) {
        int at = x.count(5);
        int[] fives = new int[5];
        for (int i = 0; i < text.length(); i += 20) {
            for (int j = 0; j < 5; j++) {
                fives[j] = four(text, i + 4 * j);
            }
            x.feed(fives[0], fives[1], fives[2], fives[3], fives[4]);
        }
        x.end(at + text.length());
    }

    private static int four(String text, int from) {
        int number = 0;
        for (int i = from; i < from + 4; i++) {
            number = number << 8 | (i < text.length() ? text.charAt(i) & 255 : 32);
        }
        return number;
    }

    /** A new object with this OFFICE. */
    static StampOrder told(String text) {
        StampOrder x = new StampOrder();
        type(x, text);
        x.office();
        return x;
    }

    /** Lays a row of bytes into a SLOT. */
    static void lay(StampOrder x, int slot, int... numbers) {
        x.row(slot, 0, numbers.length);
        for (int i = 0; i < numbers.length; i++) {
            x.write(slot, i, numbers[i]);
        }
    }
}
