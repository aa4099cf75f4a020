/** Promises 9 to 28: firms, colds, WORTH and who is OUT, year by year. */
public final class YearsTest {
    /**
     * COLDS: YEAR 0 {0}, 1 {1}, 2 {2}. WORTH: 0: 10 7 8 9 10; 1: 5 5 1 1 1; 2: 8 10 12 10 12.
     * JOINS: 0 - 1 in YEARS 0 .. 2, 1 - 2 in YEARS 0, 1.
     */
    private static final String CHAIN = "city years 5 law 0 slump 4 odds 3;"
            + "partner wide 3 worth 10 gains 1;partner wide 2 worth 5 gains 0;"
            + "partner wide 4 worth 8 gains 2;"
            + "join 0 1 wax 3;join 1 2 wax 2;door 5;door 9;cold 0 at 0;";

    /**
     * YEAR 1: 0 has -5, 1 has 4, both OUT, so 1 catches no COLD. 2 is sick in it, and is OUT alone
     * from YEAR 2 on, of -9.
     */
    private static final String RUIN = "city years 4 law 3 slump 9 odds 10;"
            + "partner wide 3 worth 4 gains 0;partner wide 5 worth 3 gains 1;"
            + "partner wide 1 worth 0 gains 0;"
            + "join 0 1 wax 9;door 7;door 1;cold 0 at 0;cold 2 at 1;";

    private static final String EMPTY = "city years 2 law 0 slump 0 odds 0;";

    public static void main(String[] args) {
        chainOfThree();
        chainAcrossYears();
        ruin();
        widths();
        colds();
        manyFirms();
        fewerYears();
        nobody();
        noneSuch();
        Checks.end();
    }

    private static void years(String name, int[] got, int... want) {
        for (int year = 0; year < want.length; year++) {
            Checks.due(name + " in " + year, got[year], want[year]);
        }
    }

    private static void chainOfThree() {
        WaxedPartners x = Checks.told(CHAIN);
        int[] got = new int[5];
        Checks.section("promise 9");
        for (int y = 0; y < 5; y++) {
            got[y] = x.holds(y);
        }
        years("holds", got, 3, 3, 1, 0, 0);
        Checks.section("promise 10");
        Checks.due("tied(0, 1, 2)", x.tied(0, 1, 2), 1);
        Checks.due("tied(1, 0, 2)", x.tied(1, 0, 2), 1);
        Checks.due("tied(0, 1, 3)", x.tied(0, 1, 3), 0);
        Checks.due("tied(0, 2, 0)", x.tied(0, 2, 0), 0);
        Checks.section("promise 11");
        Checks.due("firm(0, 1)", x.firm(0, 1), 7);
        Checks.due("firm(2, 1)", x.firm(2, 1), 7);
        Checks.due("firm(1, 2)", x.firm(1, 2), 3);
        Checks.due("firm(2, 2)", x.firm(2, 2), 4);
        Checks.due("firm(1, 4)", x.firm(1, 4), 2);
        Checks.section("promise 12");
        for (int y = 0; y < 5; y++) {
            got[y] = x.firms(y);
        }
        years("firms", got, 1, 1, 2, 3, 3);
        Checks.section("promise 13");
        Checks.due("wide(1, 0)", x.wide(1, 0), 9);
        Checks.due("wide(1, 2)", x.wide(1, 2), 5);
        Checks.due("wide(2, 2)", x.wide(2, 2), 4);
        Checks.section("promise 14");
        Checks.due("passes(1, 0)", x.passes(1, 0), 2);
        Checks.due("passes(1, 2)", x.passes(1, 2), 3);
        Checks.due("passes(2, 2)", x.passes(2, 2), 3);
        Checks.section("promise 15");
        for (int y = 0; y < 5; y++) {
            got[y] = x.largest(y);
        }
        years("largest", got, 3, 3, 2, 1, 1);
        Checks.section("promise 16");
        Checks.due("hairs(0, 2, 0)", x.hairs(0, 2, 0), 2);
        Checks.due("hairs(2, 0, 1)", x.hairs(2, 0, 1), 2);
        Checks.due("hairs(0, 1, 1)", x.hairs(0, 1, 1), 1);
        Checks.due("hairs(1, 1, 4)", x.hairs(1, 1, 4), 0);
        Checks.due("hairs(0, 2, 2)", x.hairs(0, 2, 2), -1);
    }

    private static void chainAcrossYears() {
        WaxedPartners x = Checks.told(CHAIN);
        int[] got = new int[5];
        Checks.section("promise 17");
        for (int y = 0; y < 5; y++) {
            got[y] = x.colds(y);
        }
        years("colds", got, 1, 2, 4, 0, 0);
        Checks.section("promise 18");
        Checks.due("cold(0)", x.cold(0), 0);
        Checks.due("cold(1)", x.cold(1), 1);
        Checks.due("cold(2)", x.cold(2), 2);
        Checks.section("promise 19");
        int[][] worths = {{10, 7, 8, 9, 10}, {5, 5, 1, 1, 1}, {8, 10, 12, 10, 12}};
        for (int p = 0; p < 3; p++) {
            for (int y = 0; y < 5; y++) {
                Checks.due("worth(" + p + ", " + y + ")", x.worth(p, y), worths[p][y]);
            }
        }
        Checks.section("promise 20");
        Checks.due("funds(0, 1)", x.funds(0, 1), 22);
        Checks.due("funds(1, 2)", x.funds(1, 2), 9);
        Checks.due("funds(2, 2)", x.funds(2, 2), 12);
        Checks.section("promise 23");
        for (int y = 0; y < 5; y++) {
            got[y] = x.richest(y);
        }
        years("richest", got, 0, 0, 2, 2, 2);
        Checks.section("promise 24");
        Checks.due("parts(0)", x.parts(0), 3);
        Checks.due("parts(1)", x.parts(1), 2);
        Checks.section("promise 25");
        Checks.due("merger()", x.merger(), 0);
        Checks.section("promise 26");
        Checks.due("apart(0, 1)", x.apart(0, 1), 3);
        Checks.due("apart(1, 2)", x.apart(1, 2), 2);
        Checks.due("apart(2, 0)", x.apart(2, 0), 2);
        Checks.section("promise 27");
        for (int y = 0; y < 5; y++) {
            got[y] = x.singles(y);
        }
        years("singles", got, 0, 0, 4, 7, 7);
        Checks.section("promise 28");
        for (int y = 0; y < 5; y++) {
            got[y] = x.total(y);
        }
        years("total", got, 23, 22, 21, 20, 23);
    }

    private static void ruin() {
        WaxedPartners x = Checks.told(RUIN);
        Checks.section("OUT");
        int[] got = new int[4];
        for (int y = 0; y < 4; y++) {
            got[y] = x.out(y);
        }
        years("promise 21: out", got, 0, 3, 7, 7);
        Checks.due("promise 22: fails(0)", x.fails(0), 1);
        Checks.due("promise 22: fails(1)", x.fails(1), 1);
        Checks.due("promise 22: fails(2)", x.fails(2), 2);
        for (int y = 0; y < 4; y++) {
            got[y] = x.colds(y);
        }
        years("promise 17: colds", got, 1, 4, 0, 0);
        Checks.due("promise 18: cold(1)", x.cold(1), -1);
        int[][] worths = {{4, -5, -5, -5}, {3, 4, 4, 4}, {0, 0, -9, -9}};
        for (int p = 0; p < 3; p++) {
            for (int y = 0; y < 4; y++) {
                Checks.due("promise 19: worth(" + p + ", " + y + ")", x.worth(p, y), worths[p][y]);
            }
        }
        Checks.due("promise 20: funds(0, 0)", x.funds(0, 0), 7);
        Checks.due("promise 20: funds(1, 1)", x.funds(1, 1), -10000);
        Checks.due("promise 20: funds(2, 1)", x.funds(2, 1), 0);
        Checks.due("promise 20: funds(2, 2)", x.funds(2, 2), -10000);
        Checks.due("promise 9: holds(0)", x.holds(0), 1);
        Checks.due("promise 9: holds(1)", x.holds(1), 0);
        Checks.due("promise 24: parts(0)", x.parts(0), 1);
        Checks.due("promise 10: tied(0, 1, 1)", x.tied(0, 1, 1), 0);
        Checks.due("promise 11: firm(0, 1)", x.firm(0, 1), 0);
        Checks.due("promise 12: firms(1)", x.firms(1), 1);
        Checks.due("promise 12: firms(2)", x.firms(2), 0);
        Checks.due("promise 13: wide(0, 0), less 1", x.wide(0, 0), 7);
        Checks.due("promise 13: wide(0, 1)", x.wide(0, 1), 0);
        Checks.due("promise 14: passes(0, 0)", x.passes(0, 0), 1);
        Checks.due("promise 14: passes(2, 1)", x.passes(2, 1), 3);
        Checks.due("promise 14: passes(0, 1)", x.passes(0, 1), 0);
        Checks.due("promise 15: largest(1)", x.largest(1), 1);
        Checks.due("promise 15: largest(3)", x.largest(3), 0);
        Checks.due("promise 16: hairs(0, 1, 1)", x.hairs(0, 1, 1), -1);
        Checks.due("promise 16: hairs(0, 0, 1), of no FIRM", x.hairs(0, 0, 1), -1);
        Checks.due("promise 16: hairs(2, 2, 1)", x.hairs(2, 2, 1), 0);
        Checks.due("promise 23: richest(0)", x.richest(0), 0);
        Checks.due("promise 23: richest(1)", x.richest(1), 2);
        Checks.due("promise 23: richest(2)", x.richest(2), -1);
        Checks.due("promise 25: merger()", x.merger(), -1);
        Checks.due("promise 26: apart(0, 1)", x.apart(0, 1), 1);
        Checks.due("promise 26: apart(0, 2)", x.apart(0, 2), 0);
        Checks.due("promise 27: singles(0)", x.singles(0), 4);
        Checks.due("promise 27: singles(1)", x.singles(1), 4);
        Checks.due("promise 27: singles(3)", x.singles(3), 0);
        Checks.due("promise 28: total(1)", x.total(1), 0);
        Checks.due("promise 28: total(0)", x.total(0), 7);
        Checks.due("promise 28: total(2)", x.total(2), 0);
    }

    private static void widths() {
        Checks.section("promise 13, by LAW");
        int[] due = {9, 4, 6, 6};
        for (int law = 0; law < 4; law++) {
            WaxedPartners x = Checks.told("city years 1 law " + law + " slump 0 odds 0;"
                    + "partner wide 3 worth 0 gains 0;partner wide 2 worth 0 gains 0;"
                    + "partner wide 4 worth 0 gains 0;join 0 1 wax 1;join 1 0 wax 2;join 2 1 wax 1;");
            Checks.due("wide(0, 0) by LAW " + law, x.wide(0, 0), due[law]);
            Checks.due("wide(2, 0) by LAW " + law, x.wide(2, 0), due[law]);
        }
        WaxedPartners x = Checks.told("city years 1 law 3 slump 0 odds 0;"
                + "partner wide 1 worth 0 gains 0;partner wide 1 worth 0 gains 0;"
                + "join 0 1 wax 1;join 0 1 wax 1;join 0 1 wax 1;door 1;");
        Checks.due("1 at least", x.wide(0, 0), 1);
        Checks.due("no less wide", x.passes(1, 0), 1);
        x.weld(0, 1, 0, 1);
        Checks.due("1 at least", x.wide(1, 0), 1);
        x.snip(0, 1, 0);
        Checks.due("alone", x.wide(1, 0), 1);
    }

    private static void colds() {
        Checks.section("promise 17, ties");
        // a COLD passes only to whom one is tied in the YEAR ahead, one YEAR at a time, once
        WaxedPartners x = Checks.told("city years 6 law 0 slump 0 odds 0;"
                + "partner wide 1 worth 0 gains 0;partner wide 1 worth 0 gains 0;"
                + "partner wide 1 worth 0 gains 0;partner wide 1 worth 0 gains 0;"
                + "join 0 1 wax 9;join 1 2 wax 2;join 2 3 wax 9;"
                + "cold 0 at 1;cold 0 at 3;cold 3 at 3;cold 1 at 11;");
        int[] got = new int[6];
        for (int y = 0; y < 6; y++) {
            got[y] = x.colds(y);
        }
        years("colds", got, 0, 1, 2, 8, 4, 0);
        Checks.due("cold(2)", x.cold(2), 4);
        x.weld(1, 2, 2, 1);
        Checks.due("colds(3), a JOIN made", x.colds(3), 12);
        Checks.due("colds(4)", x.colds(4), 0);
        x.anew();
        x.snip(0, 1, 1);
        Checks.due("colds(2), cut in the YEAR", x.colds(2), 0);
        Checks.due("cold(1)", x.cold(1), -1);
        x.undo();
        x.snip(0, 1, 2);
        Checks.due("colds(2), cut a YEAR too late", x.colds(2), 2);
    }

    private static void fewerYears() {
        Checks.section("what was in YEARS that there are no more");
        String rest = " law 0 slump 20 odds 0;partner wide 1 worth 0 gains 0;cold 0 at 10;";
        WaxedPartners x = Checks.told("city years 12" + rest);
        Checks.due("cold(0)", x.cold(0), 10);
        Checks.due("fails(0)", x.fails(0), 11);
        Checks.read(x, "city years 10" + rest);
        Checks.due("cold(0)", x.cold(0), -1);
        Checks.due("fails(0)", x.fails(0), -1);
        Checks.due("out(9)", x.out(9), 0);
        Checks.due("guards(0)", x.guards(0), 0);
        Checks.due("drawn(0, 0)", x.drawn(0, 0), 0);
    }

    private static void manyFirms() {
        Checks.section("several firms");
        WaxedPartners x = Checks.told("city years 2 law 0 slump 20 odds 0;"
                + "partner wide 1 worth 5 gains 0;partner wide 2 worth 9 gains 0;"
                + "partner wide 3 worth 4 gains 0;partner wide 4 worth 9 gains 9;"
                + "partner wide 5 worth 0 gains 0;partner wide 6 worth 3 gains 0;"
                + "join 4 1 wax 1;join 5 2 wax 1;join 2 0 wax 1;join 5 0 wax 1;"
                + "door 10;door 9;door 7;cold 3 at 0;");
        Checks.due("firm(0, 0)", x.firm(0, 0), 37);
        Checks.due("firm(1, 0)", x.firm(1, 0), 18);
        Checks.due("firm(3, 0)", x.firm(3, 0), 8);
        Checks.due("firms(0)", x.firms(0), 3);
        Checks.due("largest(0)", x.largest(0), 3);
        Checks.due("hairs(0, 2, 0)", x.hairs(0, 2, 0), 1);
        Checks.due("passes(0, 0)", x.passes(0, 0), 1);
        Checks.due("passes(4, 0)", x.passes(4, 0), 7);
        Checks.due("passes(3, 0)", x.passes(3, 0), 7);
        Checks.due("promise 23: richest(0)", x.richest(0), 0);
        Checks.due("worth(3, 1)", x.worth(3, 1), -2);
        Checks.due("out(1)", x.out(1), 8);
        Checks.due("promise 23: the first of several", x.richest(1), 1);
        Checks.due("promise 27: singles(0)", x.singles(0), 8);
        Checks.due("promise 27: singles(1)", x.singles(1), 55);
        Checks.due("promise 28: total(1)", x.total(1), 21);
        Checks.due("promise 25: merger()", x.merger(), -1);
        x = Checks.told("city years 3 law 0 slump 0 odds 0;partner wide 1 worth 0 gains 0;"
                + "partner wide 1 worth 0 gains 0;join 0 1 wax 9;");
        Checks.due("promise 24: it holds to the last", x.parts(0), -1);
        Checks.due("promise 26: never apart", x.apart(0, 1), -1);
        x.snip(0, 1, 0);
        Checks.due("promise 24: cut in YEAR 0", x.parts(0), 0);
        Checks.due("promise 25: merger()", x.merger(), -1);
        x.weld(0, 1, 2, 1);
        Checks.due("promise 25: merger()", x.merger(), 2);
        Checks.due("promise 9: told ones alone", x.holds(2), 0);
        Checks.due("promise 26: apart(0, 1)", x.apart(0, 1), 0);
    }

    private static void nobody() {
        Checks.section("no PARTNERS");
        WaxedPartners x = Checks.told(EMPTY);
        Checks.due("holds(1)", x.holds(1), 0);
        Checks.due("firms(1)", x.firms(1), 0);
        Checks.due("largest(1)", x.largest(1), 0);
        Checks.due("colds(1)", x.colds(1), 0);
        Checks.due("out(1)", x.out(1), 0);
        Checks.due("richest(1)", x.richest(1), -1);
        Checks.due("merger()", x.merger(), -1);
        Checks.due("singles(1)", x.singles(1), 0);
        Checks.due("total(1)", x.total(1), 0);
        x = Checks.told(EMPTY + "partner wide 1 worth 0 gains 0;");
        Checks.due("merger() of one", x.merger(), 0);
        Checks.due("richest(0) of one", x.richest(0), 0);
        Checks.due("largest(0) of one", x.largest(0), 1);
        Checks.due("singles(0) of one", x.singles(0), 1);
        Checks.due("firms(0) of one", x.firms(0), 1);
    }

    private static void noneSuch() {
        Checks.section("there are none such");
        WaxedPartners x = Checks.told(CHAIN);
        int[] badYears = {-1, 5, 12, Integer.MAX_VALUE, Integer.MIN_VALUE};
        for (int y : badYears) {
            Checks.due("holds(" + y + ")", x.holds(y), -2);
            Checks.due("firms(" + y + ")", x.firms(y), -2);
            Checks.due("largest(" + y + ")", x.largest(y), -2);
            Checks.due("colds(" + y + ")", x.colds(y), -2);
            Checks.due("out(" + y + ")", x.out(y), -2);
            Checks.due("richest(" + y + ")", x.richest(y), -2);
            Checks.due("singles(" + y + ")", x.singles(y), -2);
            Checks.due("total(" + y + ")", x.total(y), -10000);
            Checks.due("tied(0, 1, " + y + ")", x.tied(0, 1, y), -2);
            Checks.due("hairs(0, 1, " + y + ")", x.hairs(0, 1, y), -2);
        }
        int[][] bad = {{-1, 0}, {3, 0}, {0, -1}, {0, 5}, {6, 12}, {Integer.MIN_VALUE, 0}};
        for (int[] b : bad) {
            String at = "(" + b[0] + ", " + b[1] + ")";
            Checks.due("firm" + at, x.firm(b[0], b[1]), -2);
            Checks.due("wide" + at, x.wide(b[0], b[1]), -2);
            Checks.due("passes" + at, x.passes(b[0], b[1]), -2);
            Checks.due("worth" + at, x.worth(b[0], b[1]), -10000);
            Checks.due("funds" + at, x.funds(b[0], b[1]), -10000);
        }
        int[][] pairs = {{-1, 0}, {0, -1}, {3, 0}, {0, 3}, {1, 1}};
        for (int[] b : pairs) {
            String at = "(" + b[0] + ", " + b[1] + ")";
            Checks.due("tied" + at, x.tied(b[0], b[1], 0), -2);
            Checks.due("apart" + at, x.apart(b[0], b[1]), -2);
            Checks.due("hairs" + at, x.hairs(b[0], b[1], 0), b[0] == b[1] ? 0 : -2);
        }
        for (int p : new int[] {-1, 3, Integer.MAX_VALUE}) {
            Checks.due("cold(" + p + ")", x.cold(p), -2);
            Checks.due("fails(" + p + ")", x.fails(p), -2);
        }
        Checks.due("parts(2)", x.parts(2), -2);
        Checks.due("parts(-1)", x.parts(-1), -2);
        Checks.due("promise 22: fails(0)", x.fails(0), -1);
    }
}
