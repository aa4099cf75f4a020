/** Promises 42 to 48: which told JOINS can be true by what was seen, and by which LAW. */
public final class GumTest {
    /** Widths by LAW 0: none 3 2 4; JOIN 0: {0, 1} 5; JOIN 1: {1, 2} 6; both: 9. */
    private static final String CHAIN = "city years 5 law 0 slump 4 odds 3;"
            + "partner wide 3 worth 10 gains 1;partner wide 2 worth 5 gains 0;"
            + "partner wide 4 worth 8 gains 2;"
            + "join 0 1 wax 3;join 1 2 wax 2;door 5;door 9;cold 0 at 0;";

    public static void main(String[] args) {
        seen();
        actsAside();
        questions();
        laws();
        by();
        refused();
        Checks.end();
    }

    private static void sets(WaxedPartners x, int trues, int surely, int never) {
        Checks.due("promise 42: trues(3)", x.trues(3), trues);
        Checks.due("promise 43: surely(3)", x.surely(3), surely);
        Checks.due("promise 44: never(3)", x.never(3), never);
    }

    private static void seen() {
        Checks.section("GUM");
        WaxedPartners x = Checks.told(CHAIN);
        Checks.fill(x, 3, 0);
        sets(x, 4, 0, 0);
        Checks.fill(x, 3, 0, 0, 0, 1);
        sets(x, 3, 0, 0);
        Checks.fill(x, 3, 1, 0, 0, 0);
        sets(x, 1, 3, 0);
        Checks.fill(x, 3, 2, 2, 0, 1);
        sets(x, 2, 0, 2);
        Checks.fill(x, 3, 3, 2, 0, 0, 0, 0, 1);
        sets(x, 1, 2, 1);
        Checks.fill(x, 3, 0, 0, 0, 1, 0, 0, 0);
        sets(x, 0, -1, -1);
        Checks.fill(x, 3, 0, 0, 1, 0);
        sets(x, 0, -1, -1);
        Checks.fill(x, 3, 0, 0, 1, 1, 2, 1, 1);
        sets(x, 4, 0, 0);
        x = Checks.told("city years 1 law 0 slump 0 odds 0;");
        Checks.fill(x, 3, 0);
        sets(x, 1, 0, 0);
    }

    private static void actsAside() {
        Checks.section("GUM, acts aside");
        WaxedPartners x = Checks.told(CHAIN);
        x.weld(0, 2, 0, 9);
        x.snip(0, 1, 0);
        Checks.fill(x, 3, 0, 0, 0, 1);
        sets(x, 3, 0, 0);
        Checks.fill(x, 3, 1, 0, 0, 0);
        sets(x, 1, 3, 0);
        Checks.due("ask(3)", x.ask(3), -1);
        Checks.due("laws(3)", x.laws(3), 13);
    }

    private static void questions() {
        Checks.section("ASK");
        WaxedPartners x = Checks.told(CHAIN);
        Checks.fill(x, 3, 0);
        Checks.due("promise 45: ask(3)", x.ask(3), 10);
        Checks.due("promise 46: leaves(3)", x.leaves(3), 2);
        Checks.fill(x, 3, 0, 2, 0, 0);
        Checks.due("promise 45: ask(3), JOIN 1 alone or both", x.ask(3), 0);
        Checks.due("promise 46: leaves(3)", x.leaves(3), 1);
        Checks.fill(x, 3, 0, 0, 0, 0);
        Checks.due("promise 45: ask(3) of one set", x.ask(3), -1);
        Checks.due("promise 46: leaves(3)", x.leaves(3), 1);
        Checks.fill(x, 3, 0, 0, 0, 1, 0, 0, 0);
        Checks.due("promise 45: ask(3) of no set", x.ask(3), -1);
        Checks.due("promise 46: leaves(3)", x.leaves(3), 0);
        Checks.fill(x, 3, 0, 1, 0, 1);
        Checks.due("promise 45: none or JOIN 0: no DOOR tells", x.ask(3), -1);
        Checks.due("promise 46: leaves(3)", x.leaves(3), 2);
        x = Checks.told("city years 1 law 0 slump 0 odds 0;partner wide 1 worth 0 gains 0;"
                + "partner wide 1 worth 0 gains 0;partner wide 4 worth 0 gains 0;"
                + "join 0 1 wax 1;join 1 2 wax 1;door 9;door 1;door 5;door 2;");
        // through DOOR 1 PARTNER 0 goes in two of four, alone; PARTNER 1 in one
        Checks.fill(x, 3, 0);
        Checks.due("promise 45: ten times the PARTNER and the DOOR", x.ask(3), 1);
        Checks.fill(x, 3, 0, 0, 1, 1);
        Checks.due("promise 45: JOIN 1 is left open", x.ask(3), 11);
        Checks.due("promise 46: leaves(3)", x.leaves(3), 1);
    }

    private static void laws() {
        Checks.section("promise 47");
        // all of one FIRM: 9, 4, 6, 7
        WaxedPartners x = Checks.told(CHAIN);
        Checks.fill(x, 3, 0);
        Checks.due("laws(3)", x.laws(3), 15);
        Checks.fill(x, 3, 0, 0, 0, 1);
        Checks.due("laws(3)", x.laws(3), 2);
        Checks.fill(x, 3, 0, 0, 0, 0);
        Checks.due("laws(3)", x.laws(3), 13);
        Checks.fill(x, 3, 0, 2, 1, 1);
        Checks.due("laws(3)", x.laws(3), 15);
        Checks.fill(x, 3, 0, 0, 0, 1, 0, 1, 0);
        Checks.due("laws(3)", x.laws(3), 0);
        x = Checks.told(CHAIN + "door 6;door 7;");
        Checks.fill(x, 3, 0, 1, 2, 1);
        Checks.due("laws(3)", x.laws(3), 6);
        Checks.fill(x, 3, 0, 1, 3, 1, 2, 2, 0);
        Checks.due("laws(3)", x.laws(3), 8);
    }

    private static void by() {
        Checks.section("promise 48");
        WaxedPartners x = Checks.told(CHAIN);
        int[] one = {0, 1, 0, 0};
        int[] two = {2, 2, 2, 2};
        for (int law = 0; law < 4; law++) {
            Checks.due("by(0, " + law + ")", x.by(0, law), one[law]);
            Checks.due("by(1, " + law + ")", x.by(1, law), 1);
        }
        x.snip(1, 2, 0);
        for (int law = 0; law < 4; law++) {
            Checks.due("by(0, " + law + ")", x.by(0, law), two[law]);
        }
        x.weld(1, 2, 1, 9);
        Checks.due("by(0, 0), YEAR 0 alone", x.by(0, 0), 2);
        Checks.due("by(2, 0)", x.by(2, 0), -2);
        Checks.due("by(-1, 0)", x.by(-1, 0), -2);
        Checks.due("by(0, 4)", x.by(0, 4), -2);
        Checks.due("by(0, -1)", x.by(0, -1), -2);
    }

    private static void all(WaxedPartners x, int slot, int due) {
        Checks.due("trues(" + slot + ")", x.trues(slot), due);
        Checks.due("surely(" + slot + ")", x.surely(slot), due);
        Checks.due("never(" + slot + ")", x.never(slot), due);
        Checks.due("ask(" + slot + ")", x.ask(slot), due);
        Checks.due("leaves(" + slot + ")", x.leaves(slot), due);
        Checks.due("laws(" + slot + ")", x.laws(slot), due);
    }

    private static void refused() {
        Checks.section("GUM refused");
        WaxedPartners x = Checks.told(CHAIN);
        all(x, 0, -6);
        all(x, 4, -2);
        all(x, -1, -2);
        all(x, Integer.MAX_VALUE, -2);
        for (int n : new int[] {1, 2, 4, 5, 59}) {
            x.row(0, 0, n);
            all(x, 0, -2);
        }
        long[][] bad = {{3, 0, 0}, {-1, 0, 0}, {0, 2, 0}, {0, -1, 0}, {0, 0, 2}, {0, 0, -1},
            {1L << 32, 0, 0}, {0, 1L << 32, 0}, {0, 0, 1L << 32 | 1}, {Long.MIN_VALUE, 0, 0},
            {0, 0, 1, 0, 0, 7}, {0, 0, 1, 0, 0, 0, 9, 9, 9}};
        for (long[] numbers : bad) {
            Checks.fill(x, 0, 3, numbers);
            all(x, 0, -2);
        }
        x.city();
        all(x, 1, -2);
        x.row(1, 0, 0);
        all(x, 1, -2);
    }
}
