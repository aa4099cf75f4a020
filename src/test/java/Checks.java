import java.nio.charset.StandardCharsets;

/** What the tests share: texts are fed, answers are compared, and a failing test ends with 1. */
final class Checks {
    private static int asked;
    private static int wrong;
    private static String section = "";

    private Checks() {
    }

    static void section(String name) {
        section = name;
    }

    static void due(String call, long got, long want) {
        asked++;
        if (got != want) {
            wrong++;
            if (wrong <= 40) {
                System.out.println(section + ": " + call + " answered " + got + ", due is " + want);
            }
        }
    }

    static int wrongSoFar() {
        return wrong;
    }

    static void end() {
        System.out.println(asked + " answers looked at, " + wrong + " of them wrong");
        if (wrong != 0 || asked == 0) {
            System.exit(1);
        }
    }

    /** Puts a text behind the TAPE, with blanks as far as feed() needs them, and cuts those off. */
    static void feed(WaxedPartners x, String text) {
        feed(x, text.getBytes(StandardCharsets.ISO_8859_1));
    }

    static void feed(WaxedPartners x, byte[] bytes) {
        int before = x.count(10);
        for (int i = 0; i < bytes.length; i += 20) {
            x.feed(four(bytes, i), four(bytes, i + 4), four(bytes, i + 8), four(bytes, i + 12),
                    four(bytes, i + 16));
        }
        x.end(before + bytes.length);
    }

    private static int four(byte[] bytes, int from) {
        int number = 0;
        for (int i = from; i < from + 4; i++) {
            number = number << 8 | (i < bytes.length ? bytes[i] & 255 : 32);
        }
        return number;
    }

    static int read(WaxedPartners x, String text) {
        feed(x, text);
        return x.city();
    }

    static WaxedPartners told(String text) {
        WaxedPartners x = new WaxedPartners();
        int lines = read(x, text);
        due("city() of " + text, lines < 0 ? lines : 1, 1);
        return x;
    }

    static void fill(WaxedPartners x, int slot, int width, long... numbers) {
        x.row(slot, width, numbers.length);
        for (int i = 0; i < numbers.length; i++) {
            x.write(slot, i, numbers[i]);
        }
    }
}
