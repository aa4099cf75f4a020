/** Promises 65 to 67: SLOTS, their rows, and what is put from one to another. */
public final class RowsTest {
    private static final String CITY = "city years 1 law 0 slump 0 odds 0;"
            + "partner wide 1 worth 10 gains 0;partner wide 1 worth 20 gains 0;"
            + "partner wide 1 worth 30 gains 0;door 9;";

    public static void main(String[] args) {
        rows();
        writes();
        widths();
        pastes();
        overlaps();
        refusedPastes();
        Checks.end();
    }

    private static void rows() {
        Checks.section("promise 65");
        WaxedPartners x = Checks.told(CITY);
        Checks.due("row(0, 0, 60)", x.row(0, 0, 60), 0);
        Checks.due("row(3, 3, 0)", x.row(3, 3, 0), 0);
        Checks.due("count(11)", x.count(11), 2);
        Checks.due("row(0, 3, 3)", x.row(0, 3, 3), 0);
        Checks.due("count(11)", x.count(11), 2);
        Checks.due("row(-1, 0, 1)", x.row(-1, 0, 1), -2);
        Checks.due("row(4, 0, 1)", x.row(4, 0, 1), -2);
        Checks.due("row(0, -1, 1)", x.row(0, -1, 1), -2);
        Checks.due("row(0, 4, 1)", x.row(0, 4, 1), -2);
        Checks.due("row(0, 0, 61)", x.row(0, 0, 61), -2);
        Checks.due("row(0, 0, 2147483647)", x.row(0, 0, Integer.MAX_VALUE), -2);
        Checks.due("row(0, 0, -1)", x.row(0, 0, -1), -3);
        Checks.due("row(0, 0, -2147483648)", x.row(0, 0, Integer.MIN_VALUE), -3);
        Checks.due("row(1, 0, -1)", x.row(1, 0, -1), -3);
        Checks.due("row(4, 0, -1)", x.row(4, 0, -1), -2);
        Checks.due("row(1, 4, -1)", x.row(1, 4, -1), -2);
        Checks.due("count(11)", x.count(11), 2);
        Checks.due("the SLOT stays: write(0, 2, 1)", x.write(0, 2, 1), 0);
        Checks.due("the SLOT stays: write(0, 3, 1)", x.write(0, 3, 1), -7);
        Checks.fill(x, 0, 3, 10, 20, 30);
        Checks.due("fair(0, 0)", x.fair(0, 0), 1);
        x.row(0, 3, 3);
        Checks.due("all 0 again", x.leave(0, 0), 1);
        x.row(0, 3, 3);
        Checks.due("all 0: PARTNER 0, DOOR 0, not through", x.trues(0), 0);
        x.write(0, 2, 1);
        Checks.due("PARTNER 0, DOOR 0, through", x.trues(0), 1);
        x.row(0, 3, 3);
        Checks.due("all 0 in place of another", x.trues(0), 0);
        Checks.fill(x, 0, 3, 60, 0, 0);
        Checks.due("leave(0, 0)", x.leave(0, 0), 2);
    }

    private static void writes() {
        Checks.section("promise 66");
        WaxedPartners x = Checks.told(CITY);
        Checks.due("write(0, 0, 1)", x.write(0, 0, 1), -6);
        Checks.due("write(4, 0, 1)", x.write(4, 0, 1), -2);
        Checks.due("write(-1, 0, 1)", x.write(-1, 0, 1), -2);
        x.row(0, 1, 3);
        Checks.due("write(0, -1, 1)", x.write(0, -1, 1), -7);
        Checks.due("write(0, 3, 1)", x.write(0, 3, 1), -7);
        Checks.due("write(0, 2147483647, 1)", x.write(0, Integer.MAX_VALUE, 1), -7);
        Checks.due("write(0, 0, 10)", x.write(0, 0, 10), 0);
        Checks.due("write(0, 1, 20)", x.write(0, 1, 20), 0);
        Checks.due("leave(0, 0)", x.leave(0, 0), 4);
        Checks.due("write(0, 2, 30)", x.write(0, 2, 30), 0);
        Checks.due("fair(0, 0)", x.fair(0, 0), 1);
        Checks.due("write(0, 2, 29)", x.write(0, 2, 29), 0);
        Checks.due("leave(0, 0)", x.leave(0, 0), 4);
        x.row(0, 1, 0);
        Checks.due("write(0, 0, 1)", x.write(0, 0, 1), -7);
    }

    private static void widths() {
        Checks.section("promise 66, cut to its WIDTH");
        WaxedPartners x = Checks.told(CITY);
        for (int width = 0; width < 4; width++) {
            int bits = 8 << width;
            long more = bits == 64 ? 0 : 1L << bits;
            Checks.fill(x, 0, width, 10 + more, 20 - more, 30 + 5 * more);
            Checks.due("cut of WIDTH " + width, x.fair(0, 0), 1);
            long highest = 1L << bits - 1;
            Checks.fill(x, 0, width, 100, 100, highest);
            Checks.due("the highest bit of WIDTH " + width, x.leave(0, 0), 4);
            Checks.fill(x, 0, width, 100, 100, highest - 1);
            Checks.due("the greatest of WIDTH " + width, x.leave(0, 0), -1);
            Checks.fill(x, 0, width, -1, 20, 30);
            Checks.due("-1 of WIDTH " + width, x.leave(0, 0), 1);
        }
        Checks.fill(x, 0, 1, 10 + 256, 20, 30);
        Checks.due("WIDTH 1 holds 266", x.fair(0, 0), 0);
        Checks.fill(x, 0, 2, 10 + 65536, 20, 30);
        Checks.due("WIDTH 2 holds 65,546", x.fair(0, 0), 0);
    }

    private static void pastes() {
        Checks.section("promise 67");
        WaxedPartners x = Checks.told(CITY);
        Checks.fill(x, 0, 2, 1, 10, 20, 30, 2);
        x.row(1, 2, 3);
        Checks.due("paste(0, 1, 1, 0, 3)", x.paste(0, 1, 1, 0, 3), 0);
        Checks.due("fair(1, 0)", x.fair(1, 0), 1);
        Checks.due("paste(0, 3, 1, 2, 1)", x.paste(0, 3, 1, 2, 1), 0);
        Checks.due("fair(1, 0)", x.fair(1, 0), 1);
        Checks.due("paste(0, 4, 1, 2, 1)", x.paste(0, 4, 1, 2, 1), 0);
        Checks.due("leave(1, 0)", x.leave(1, 0), 4);
        Checks.due("paste(0, 5, 1, 3, 0)", x.paste(0, 5, 1, 3, 0), 0);
        Checks.due("paste(0, 0, 1, 0, 0)", x.paste(0, 0, 1, 0, 0), 0);
        Checks.due("leave(1, 0)", x.leave(1, 0), 4);
        x.row(2, 2, 0);
        Checks.due("paste(2, 0, 2, 0, 0)", x.paste(2, 0, 2, 0, 0), 0);
        Checks.due("paste(2, 0, 1, 3, 0)", x.paste(2, 0, 1, 3, 0), 0);
    }

    private static void overlaps() {
        Checks.section("promise 67, as they were");
        WaxedPartners x = Checks.told(CITY);
        Checks.fill(x, 0, 2, 10, 20, 30, 9, 9);
        Checks.due("paste(0, 0, 0, 1, 3)", x.paste(0, 0, 0, 1, 3), 0);
        x.row(1, 2, 3);
        x.paste(0, 1, 1, 0, 3);
        Checks.due("upwards", x.fair(1, 0), 1);
        Checks.due("paste(0, 1, 0, 0, 3)", x.paste(0, 1, 0, 0, 3), 0);
        x.paste(0, 0, 1, 0, 3);
        Checks.due("downwards", x.fair(1, 0), 1);
    }

    private static void refusedPastes() {
        Checks.section("promise 67, refused");
        WaxedPartners x = Checks.told(CITY);
        Checks.fill(x, 0, 2, 10, 20, 30);
        Checks.fill(x, 1, 2, 1, 2, 3, 4);
        Checks.fill(x, 2, 1, 1, 2, 3);
        int[][] beyond = {{1, 0, 3}, {0, 2, 3}, {4, 0, 0}, {0, 5, 0}, {-1, 0, 1}, {0, -1, 1}, {0, 0, -1},
            {0, 0, 4}, {0, 0, 5}, {1, 0, Integer.MAX_VALUE}, {Integer.MAX_VALUE, 0, 1},
            {Integer.MAX_VALUE, 0, Integer.MAX_VALUE}, {0, Integer.MIN_VALUE, 0}, {3, 0, 1}, {0, 4, 1}};
        for (int[] b : beyond) {
            String call = "paste(0, " + b[0] + ", 1, " + b[1] + ", " + b[2] + ")";
            Checks.due(call, x.paste(0, b[0], 1, b[1], b[2]), -7);
        }
        Checks.due("paste(1, 0, 0, 0, 4)", x.paste(1, 0, 0, 0, 4), -7);
        Checks.due("nothing happens", x.fair(0, 0), 1);
        Checks.due("paste(0, 0, 2, 0, 1)", x.paste(0, 0, 2, 0, 1), -8);
        Checks.due("-8 ahead of -7", x.paste(0, 9, 2, 9, -9), -8);
        Checks.due("paste(0, 0, 3, 0, 1)", x.paste(0, 0, 3, 0, 1), -6);
        Checks.due("paste(3, 0, 0, 0, 1)", x.paste(3, 0, 0, 0, 1), -6);
        Checks.due("paste(3, 0, 4, 0, 1)", x.paste(3, 0, 4, 0, 1), -2);
        Checks.due("paste(-1, 0, 3, 0, 1)", x.paste(-1, 0, 3, 0, 1), -2);
        Checks.due("paste(0, 0, -1, 0, 1)", x.paste(0, 0, -1, 0, 1), -2);
        Checks.due("paste(4, 0, 0, 0, 1)", x.paste(4, 0, 0, 0, 1), -2);
    }
}
