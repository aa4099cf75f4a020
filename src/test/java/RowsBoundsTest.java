/** Promises 65 to 67: each bound of SLOTS, WIDTHS, rows and places, from both its sides. */
public final class RowsBoundsTest {
    private static final String CITY = "city years 1 law 0 slump 0 odds 0;"
            + "partner wide 1 worth 10 gains 0;partner wide 1 worth 20 gains 0;"
            + "partner wide 1 worth 30 gains 0;door 9;door 1;";

    private RowsBoundsTest() {
    }

    public static void main(String[] args) {
        slotsAndWidths();
        lengths();
        refusedRows();
        allZero();
        writesAsked();
        writesRefused();
        cutToItsWidth();
        pastesAsked();
        pastesOfNothing();
        pastesOfNone();
        pastesRefused();
        pastesInOrder();
        pastesOfSixty();
        Checks.end();
    }

    private static void write(Runs run, int slot, int width, long... numbers) {
        run.calls("row " + slot + " " + width + " " + numbers.length + " = 0");
        for (int i = 0; i < numbers.length; i++) {
            run.calls("write " + slot + " " + i + " " + numbers[i] + " = 0");
        }
    }

    private static void slotsAndWidths() {
        Runs run = new Runs("promise 65, SLOTS and WIDTHS", CITY);
        run.each("row # 0 3", -1, -2, 0, 0, 0, 0, -2, -2);
        run.calls("count 11 = 4");
        run.each("row 0 # 3", -1, -2, 0, 0, 0, 0, -2, -2);
        run.far("row # 0 3", -2);
        run.far("row 0 # 3", -2);
        run.calls("write 0 0 " + (1L << 40) + " = 0", "leave 0 0 = 2", "count 11 = 4");
        run.end();
        for (int slot = 0; slot < 4; slot++) {
            run = new Runs("promise 65, SLOT " + slot + " alone", CITY);
            run.calls("row " + slot + " 2 3 = 0", "count 11 = 1");
            for (int other = 0; other < 4; other++) {
                run.calls("write " + other + " 0 1 = " + (other == slot ? 0 : -6),
                        "fair " + other + " 0 = " + (other == slot ? 0 : -6));
            }
            run.end();
        }
    }

    private static void lengths() {
        for (int n : new int[] {0, 1, 2, 59, 60}) {
            for (int width = 0; width < 4; width++) {
                Runs run = new Runs("promise 65, " + n + " numbers", CITY);
                run.calls("row 2 " + width + " " + n + " = 0", "count 11 = 1", "write 2 " + n + " 1 = -7",
                        "write 2 " + (n + 1) + " 1 = -7", "write 2 " + (n - 1) + " 1 = " + (n == 0 ? -7 : 0),
                        "write 2 0 1 = " + (n == 0 ? -7 : 0), "write 2 60 1 = -7", "write 2 -1 1 = -7");
                run.end();
            }
        }
    }

    private static void refusedRows() {
        Runs run = new Runs("promise 65, refused", CITY);
        write(run, 0, 2, 10, 20, 30);
        run.each("row 0 2 #", 61, -2, -2, -2);
        run.each("row 0 2 #", -3, -3, -3, -3);
        run.calls("row 0 2 MAX = -2", "row 0 2 MIN = -3", "row 0 1 -1 = -3", "row 1 2 -1 = -3", "row 1 2 61 = -2",
                "row 4 2 -1 = -2", "row -1 2 -1 = -2", "row 0 4 -1 = -2", "row 0 -1 -1 = -2", "row 0 -1 MIN = -2",
                "row 4 4 61 = -2");
        run.calls("fair 0 0 = 1", "count 11 = 1", "write 0 3 1 = -7", "write 1 0 1 = -6");
        run.end();
    }

    private static void allZero() {
        Runs run = new Runs("promise 65, all 0", CITY);
        for (int width = 0; width < 4; width++) {
            write(run, 1, width, 10, 20, 30, 40, 50);
            // a shorter row, then a longer one: what stood beyond it is 0, too
            run.calls("row 1 " + width + " 2 = 0", "row 1 " + width + " 5 = 0", "row 0 " + width + " 3 = 0");
            for (int from = 0; from <= 2; from++) {
                run.calls("paste 1 " + from + " 0 0 3 = 0", "leave 0 0 = 1", "write 0 0 10 = 0", "leave 0 0 = 2",
                        "write 0 1 20 = 0", "leave 0 0 = 4", "write 0 2 30 = 0", "fair 0 0 = 1");
            }
        }
        run.end();
    }

    private static void writesAsked() {
        Runs run = new Runs("promise 66, bounds", CITY);
        run.calls("row 0 0 3 = 0", "row 3 0 60 = 0");
        run.each("write # 0 1", -1, -2, 0, -6, -6, 0, -2, -2);
        run.each("write 0 # 1", -1, -7, 0, 0, 0, -7, -7);
        run.each("write 3 # 1", 58, 0, 0, -7, -7);
        run.far("write # 0 1", -2);
        run.far("write 0 # 1", -7);
        run.far("write 1 # 1", -6);
        run.calls("write 0 60 1 = -7", "write 4 -1 1 = -2", "write 1 -1 1 = -6");
        run.end();
    }

    private static void writesRefused() {
        Runs run = new Runs("promise 66, refused", CITY);
        write(run, 2, 1, 10, 20, 30);
        run.calls("write 2 3 99 = -7", "write 2 -1 99 = -7", "write 2 4 99 = -7", "write 1 0 99 = -6", "write 4 0 99 = -2",
                "write -1 0 99 = -2", "fair 2 0 = 1", "write 2 1 21 = 0", "fair 2 0 = 0", "write 2 1 20 = 0",
                "fair 2 0 = 1", "count 11 = 1");
        run.end();
    }

    private static void cutToItsWidth() {
        for (int width = 0; width < 4; width++) {
            int bits = 8 << width;
            long greatest = Long.MAX_VALUE >> 64 - bits;
            long least = Long.MIN_VALUE >> 64 - bits;
            Runs run = new Runs("promise 66, cut to WIDTH " + width, CITY);
            write(run, 0, width, 10, 20, greatest);
            run.calls("leave 0 0 = -1", "write 0 2 " + (greatest - 1) + " = 0", "leave 0 0 = -1", "write 0 2 "
                    + (greatest + 1) + " = 0", "leave 0 0 = 4", "write 0 2 " + least + " = 0", "leave 0 0 = 4",
                    "write 0 2 " + (least - 1) + " = 0", "leave 0 0 = -1", "write 0 2 " + (least + 1) + " = 0",
                    "leave 0 0 = 4");
            // all but the lowest bits are cut
            long wrap = width == 3 ? 0 : 1L << bits;
            run.calls("write 0 2 " + (30 + wrap) + " = 0", "fair 0 0 = 1", "write 0 2 " + (30 - wrap) + " = 0",
                    "fair 0 0 = 1", "write 0 2 " + (29 + wrap) + " = 0", "leave 0 0 = 4", "write 0 2 "
                    + (30 + 7 * wrap) + " = 0", "fair 0 0 = 1");
            if (width > 0) {
                run.calls("write 0 2 " + (30 + wrap / 2 * 2 + (1L << bits / 2)) + " = 0", "leave 0 0 = -1", "fair 0 0 = 0");
            }
            run.calls("write 0 2 MAX = 0", "leave 0 0 = " + (width == 3 ? -1 : 4), "write 0 2 MIN = 0", "leave 0 0 = 4",
                    "write 0 2 -1 = 0", "leave 0 0 = 4", "fair 0 0 = 0");
            run.end();
        }
    }

    private static void pastesAsked() {
        Runs run = new Runs("promise 67, bounds", CITY);
        write(run, 0, 2, 1, 10, 20, 30, 2);
        run.calls("row 3 2 3 = 0");
        run.each("paste # 0 0 0 1", -1, -2, 0, -6, -6, 0, -2, -2);
        run.calls("write 0 0 1 = 0");
        run.each("paste 0 0 # 0 1", -1, -2, 0, -6, -6, 0, -2, -2);
        // from 0 .. 2 three can be put, not from 3 nor from -1
        run.each("paste 0 # 3 0 3", -1, -7, 0, 0, 0, -7, -7, -7, -7);
        run.calls("fair 3 0 = 0", "paste 0 1 3 0 3 = 0", "fair 3 0 = 1");
        run.each("paste 0 1 3 # 1", -1, -7, 0, 0, 0, -7, -7);
        run.calls("paste 0 1 3 0 3 = 0", "fair 3 0 = 1");
        run.each("paste 0 1 3 0 #", -1, -7, 0, 0, 0, 0, -7, -7, -7);
        run.calls("fair 3 0 = 1");
        run.each("paste 0 2 0 3 #", -1, -7, 0, 0, 0, -7, -7);
        run.calls("paste 0 3 3 2 1 = 0", "leave 3 0 = 4");
        run.end();
    }

    private static void pastesOfNothing() {
        Runs run = new Runs("promise 67, n is 0", CITY);
        write(run, 0, 2, 10, 20, 30);
        write(run, 1, 2, 10, 20, 30, 40);
        run.calls("row 2 2 0 = 0");
        run.each("paste 0 # 1 0 0", -1, -7, 0, 0, 0, 0, -7, -7);
        run.each("paste 0 0 1 # 0", -1, -7, 0, 0, 0, 0, 0, -7, -7);
        run.each("paste 2 # 2 0 0", -1, -7, 0, -7);
        run.each("paste 2 0 2 # 0", -1, -7, 0, -7);
        run.each("paste 2 0 2 0 #", -1, -7, 0, -7);
        run.calls("paste 0 3 1 4 0 = 0", "paste 0 4 1 4 0 = -7", "paste 0 3 1 5 0 = -7", "paste 0 3 2 0 0 = 0",
                "paste 0 3 2 1 0 = -7", "paste 2 0 1 4 0 = 0", "paste 2 1 1 4 0 = -7");
        run.far("paste 0 # 1 0 0", -7);
        run.far("paste 0 0 1 # 0", -7);
        run.calls("fair 0 0 = 1");
        run.end();
    }

    private static void pastesOfNone() {
        Runs run = new Runs("promise 67, no such SLOT, nothing", CITY);
        run.calls("row 0 1 3 = 0", "row 1 2 3 = 0", "row 2 1 0 = 0");
        run.far("paste # 0 0 0 0", -2);
        run.far("paste 0 0 # 0 0", -2);
        run.calls("paste 3 0 3 0 0 = -6", "paste 0 0 3 0 0 = -6", "paste 3 0 0 0 0 = -6", "paste 3 9 0 -9 -1 = -6",
                "paste 3 0 4 0 0 = -2", "paste 4 0 3 0 0 = -2", "paste 4 9 9 -1 -1 = -2", "paste 0 0 1 0 0 = -8",
                "paste 1 0 0 0 0 = -8", "paste 1 9 0 -1 -1 = -8", "paste 1 0 2 0 0 = -8", "paste 2 0 0 0 0 = 0",
                "paste 2 0 0 0 1 = -7", "paste 0 0 2 0 1 = -7", "count 11 = 3");
        run.end();
        run = new Runs("promise 67, WIDTHS", CITY);
        for (int width = 0; width < 4; width++) {
            run.calls("row " + width + " " + width + " 3 = 0");
        }
        for (int slot = 0; slot < 4; slot++) {
            run.each("paste " + slot + " 0 # 0 3", 0, slot == 0 ? 0 : -8, slot == 1 ? 0 : -8, slot == 2 ? 0 : -8,
                    slot == 3 ? 0 : -8);
        }
        run.end();
    }

    private static void pastesRefused() {
        Runs run = new Runs("promise 67, nothing happens", CITY);
        write(run, 0, 2, 10, 20, 30);
        write(run, 1, 2, 1, 2, 3, 4);
        // a part of each would have its place
        run.calls("paste 1 0 0 1 3 = -7", "paste 1 2 0 0 3 = -7", "paste 1 0 0 0 4 = -7", "paste 1 1 0 2 2 = -7",
                "paste 1 0 0 -1 2 = -7", "paste 1 -1 0 0 2 = -7", "paste 1 0 0 0 -1 = -7", "paste 1 3 0 0 2 = -7",
                "paste 1 0 0 0 MAX = -7", "paste 1 MAX 0 0 1 = -7", "paste 1 0 0 MAX 1 = -7", "paste 1 1 0 1 MAX = -7",
                "paste 1 MAX 0 MAX MAX = -7", "paste 1 0 0 0 MIN = -7", "paste 1 MIN 0 0 MIN = -7",
                "paste 1 MAX 0 0 MIN = -7", "paste 1 0 0 0 60 = -7", "paste 0 0 0 1 3 = -7", "paste 0 1 0 0 3 = -7");
        run.calls("fair 0 0 = 1", "paste 1 0 0 0 3 = 0", "fair 0 0 = 0", "leave 0 0 = 1");
        run.end();
    }

    private static void pastesInOrder() {
        for (int width = 0; width < 4; width++) {
            Runs run = new Runs("promise 67, as they were, WIDTH " + width, CITY);
            write(run, 0, width, 10, 20, 30, 9, 9);
            run.calls("row 1 " + width + " 3 = 0");
            run.calls("paste 0 0 0 2 3 = 0", "paste 0 2 1 0 3 = 0", "fair 1 0 = 1", "paste 0 2 0 1 3 = 0",
                    "row 1 " + width + " 3 = 0", "paste 0 1 1 0 3 = 0", "fair 1 0 = 1", "paste 0 1 0 0 4 = 0",
                    "row 1 " + width + " 3 = 0", "paste 0 0 1 0 3 = 0", "fair 1 0 = 1", "paste 0 0 0 1 4 = 0",
                    "row 1 " + width + " 3 = 0", "paste 0 1 1 0 3 = 0", "fair 1 0 = 1", "paste 0 0 0 0 5 = 0",
                    "paste 0 1 1 0 3 = 0", "fair 1 0 = 1");
            run.end();
        }
    }

    private static void pastesOfSixty() {
        Runs run = new Runs("promise 67, sixty", CITY);
        run.calls("row 0 0 60 = 0", "row 1 0 60 = 0", "row 2 0 3 = 0", "write 0 57 10 = 0", "write 0 58 20 = 0",
                "write 0 59 30 = 0", "paste 0 0 1 0 60 = 0", "paste 0 0 1 0 61 = -7", "paste 0 1 1 0 60 = -7",
                "paste 1 57 2 0 3 = 0", "fair 2 0 = 1", "paste 1 58 2 0 3 = -7", "paste 1 57 1 0 3 = 0",
                "paste 1 0 2 0 3 = 0", "fair 2 0 = 1", "paste 1 60 1 60 0 = 0", "paste 1 60 1 60 1 = -7",
                "paste 1 61 1 0 0 = -7", "paste 1 0 1 61 0 = -7");
        run.end();
    }
}
