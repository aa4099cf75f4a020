/** Promises 49 to 64: shaving, chance, acts, decades drawn, images. */
public final class ActsTest {
    private static final String PARTNERS = "partner wide 3 worth 10 gains 1;"
            + "partner wide 2 worth 5 gains 0;partner wide 4 worth 8 gains 2;";
    private static final String CHAIN = "city years 5 law 0 slump 4 odds 3;" + PARTNERS
            + "join 0 1 wax 3;join 1 2 wax 2;door 5;door 9;cold 0 at 0;";
    private static final String EMPTY = "city years 2 law 0 slump 0 odds 3;";
    private static final String SMALL = "partner wide 1 worth 0 gains 0;";

    public static void main(String[] args) {
        shaving();
        shavingAndActs();
        waxing();
        chances();
        chancesAndActs();
        welds();
        snips();
        orderOfActs();
        thirtyActs();
        mostJoins();
        takenBack();
        drawn();
        lucky();
        rates();
        images();
        Checks.end();
    }

    private static void gets(WaxedPartners x, int partner, int other, int... due) {
        for (int choices = 0; choices < 4; choices++) {
            int shaves = choices & 1;
            int otherShaves = choices >> 1;
            Checks.due("gets(" + partner + ", " + other + ", " + shaves + ", " + otherShaves + ")",
                    x.gets(partner, other, shaves, otherShaves), due[choices]);
        }
    }

    private static void shaving() {
        Checks.section("promises 49, 50");
        WaxedPartners x = Checks.told(CHAIN);
        gets(x, 0, 1, 10, 7, 10, 7);
        gets(x, 1, 0, 1, 2, 5, 2);
        Checks.due("rests(0, 1)", x.rests(0, 1), 4);
        Checks.due("rests(1, 0)", x.rests(1, 0), 2);
        // 2: sick 12, well 16; the slump of 4 is worth a shave of 3, but for 1 it is as well if 2 shaves
        gets(x, 2, 1, 12, 13, 16, 13);
        gets(x, 1, 2, 1, 2, 1, 2);
        Checks.due("rests(1, 2)", x.rests(1, 2), 2);
        // nobody is tied: who shaves pays for nothing
        x = Checks.told(EMPTY + SMALL + SMALL);
        gets(x, 0, 1, 0, -3, 0, -3);
        Checks.due("rests(0, 1)", x.rests(0, 1), 1);
        // a slump of 3 for a shave of 3: all the same to 1, who catches the COLD of 0
        x = Checks.told("city years 3 law 0 slump 3 odds 3;partner wide 1 worth 9 gains 0;"
                + "partner wide 1 worth 9 gains 0;join 0 1 wax 9;cold 0 at 0;");
        Checks.due("rests(0, 1)", x.rests(0, 1), 5);
        Checks.due("rests(1, 0)", x.rests(1, 0), 3);
        Checks.due("rests(0, 0)", x.rests(0, 0), -2);
        Checks.due("rests(0, 2)", x.rests(0, 2), -2);
        Checks.due("rests(-1, 1)", x.rests(-1, 1), -2);
        Checks.due("gets(0, 0, 0, 0)", x.gets(0, 0, 0, 0), -10000);
        Checks.due("gets(2, 0, 0, 0)", x.gets(2, 0, 0, 0), -10000);
        Checks.due("gets(0, -1, 0, 0)", x.gets(0, -1, 0, 0), -10000);
        Checks.due("gets(0, 1, 2, 0)", x.gets(0, 1, 2, 0), -10000);
        Checks.due("gets(0, 1, -1, 0)", x.gets(0, 1, -1, 0), -10000);
        Checks.due("gets(0, 1, 0, 2)", x.gets(0, 1, 0, 2), -10000);
        Checks.due("gets(0, 1, 0, -1)", x.gets(0, 1, 0, -1), -10000);
        // 0 is kept from being OUT by 1 alone: by himself he is OUT of -1 and gains no more
        x = Checks.told("city years 4 law 0 slump 6 odds 3;partner wide 1 worth 2 gains 3;"
                + "partner wide 1 worth 20 gains 0;join 0 1 wax 9;cold 0 at 0;");
        gets(x, 0, 1, 5, -4, -1, -4);
        gets(x, 1, 0, 14, 17, 20, 17);
        Checks.due("rests(0, 1)", x.rests(0, 1), 4);
    }

    private static void shavingAndActs() {
        Checks.section("promise 50, acts");
        // no JOIN is made of one who shaves, not in YEAR 0 nor behind it
        WaxedPartners x = Checks.told("city years 4 law 0 slump 5 odds 3;" + SMALL
                + "partner wide 1 worth 50 gains 0;cold 0 at 1;");
        x.weld(0, 1, 1, 9);
        gets(x, 1, 0, 45, 47, 50, 47);
        x.anew();
        x.weld(0, 1, 0, 9);
        gets(x, 1, 0, 45, 47, 50, 47);
        x.snip(0, 1, 0);
        gets(x, 1, 0, 50, 47, 50, 47);
    }

    private static void waxing() {
        Checks.section("promise 51");
        // 0 is OUT from YEAR 1 on, unless he is joined by then; joined in YEAR 0 he would pass his COLD
        String text = "city years 4 law 0 slump 6 odds 3;partner wide 1 worth 2 gains 3;"
                + "partner wide 1 worth 20 gains 0;cold 0 at 0;";
        WaxedPartners x = Checks.told(text);
        Checks.due("when(0, 1)", x.when(0, 1), 1);
        Checks.due("when(1, 0)", x.when(1, 0), 1);
        Checks.due("as it was", x.count(8), 0);
        Checks.due("when(0, 0)", x.when(0, 0), -2);
        Checks.due("when(0, 2)", x.when(0, 2), -2);
        Checks.due("when(-1, 0)", x.when(-1, 0), -2);
        x.snip(0, 1, 2);
        Checks.due("cut in YEAR 2 again", x.when(0, 1), 1);
        x.snip(0, 1, 1);
        Checks.due("made behind the acts of its YEAR", x.when(0, 1), 1);
        for (int i = 0; i < 28; i++) {
            x.snip(0, 1, 3);
        }
        Checks.due("acts", x.count(8), 30);
        Checks.due("besides 30 acts", x.when(0, 1), 1);
        Checks.due("acts", x.count(8), 30);
        x = Checks.told("city years 4 law 0 slump 6 odds 3;partner wide 1 worth 2 gains 3;"
                + "partner wide 1 worth 20 gains 0;");
        Checks.due("none is better than now", x.when(0, 1), -1);
        // 0 would be OUT of -1 from YEAR 2 on: YEARS 1 (tied behind his COLD of YEAR 1: too soon), 2
        x = Checks.told("city years 5 law 0 slump 9 odds 3;partner wide 1 worth 4 gains 2;"
                + "partner wide 1 worth 50 gains 0;cold 0 at 1;");
        Checks.due("when(0, 1)", x.when(0, 1), 2);
        // nobody is sick: YEAR 0 is as good as YEAR 1, and the first
        x = Checks.told("city years 3 law 0 slump 3 odds 3;partner wide 1 worth 2 gains 1;"
                + "partner wide 1 worth 9 gains 0;partner wide 1 worth 1 gains 0;"
                + "cold 0 at 0;cold 1 at 0;cold 2 at 0;");
        Checks.due("out(1)", x.out(1), 4);
        Checks.due("when(1, 2) in vain", x.when(1, 2), -1);
        x = Checks.told("city years 3 law 0 slump 3 odds 3;partner wide 1 worth 2 gains 1;"
                + "partner wide 1 worth 9 gains 0;partner wide 1 worth 1 gains 1;"
                + "cold 0 at 0;cold 1 at 0;cold 2 at 0;");
        Checks.due("when(1, 2), the first of several", x.when(1, 2), 0);
    }

    private static void fraction(String call, int above, int below, int dueAbove, int dueBelow) {
        Checks.due(call + " above", above, dueAbove);
        Checks.due(call + " below", below, dueBelow);
    }

    private static void chance(WaxedPartners x, int partner, int other, int above, int below) {
        fraction("promise 52: chance(" + partner + ", " + other + ")", x.chance(partner, other, 0),
                x.chance(partner, other, 1), above, below);
    }

    private static void through(WaxedPartners x, int partner, int door, int above, int below) {
        fraction("promise 53: through(" + partner + ", " + door + ")", x.through(partner, door, 0),
                x.through(partner, door, 1), above, below);
    }

    private static void mean(WaxedPartners x, int above, int below) {
        fraction("promise 54: mean", x.mean(0), x.mean(1), above, below);
    }

    private static void chances() {
        Checks.section("CHANCE");
        WaxedPartners x = Checks.told(CHAIN);
        chance(x, 0, 1, 7, 10);
        chance(x, 2, 0, 49, 100);
        through(x, 0, 0, 51, 100);
        through(x, 2, 0, 3, 10);
        through(x, 2, 1, 1, 1);
        mean(x, 8, 5);
        Checks.due("chance(0, 0, 0)", x.chance(0, 0, 0), -2);
        Checks.due("chance(0, 3, 0)", x.chance(0, 3, 0), -2);
        Checks.due("chance(-1, 0, 0)", x.chance(-1, 0, 0), -2);
        Checks.due("chance(0, 1, 2)", x.chance(0, 1, 2), -2);
        Checks.due("chance(0, 1, -1)", x.chance(0, 1, -1), -2);
        Checks.due("through(3, 0, 0)", x.through(3, 0, 0), -2);
        Checks.due("through(-1, 0, 0)", x.through(-1, 0, 0), -2);
        Checks.due("through(0, 2, 0)", x.through(0, 2, 0), -2);
        Checks.due("through(0, -1, 0)", x.through(0, -1, 0), -2);
        Checks.due("through(0, 0, 2)", x.through(0, 0, 2), -2);
        Checks.due("mean(2)", x.mean(2), -2);
        Checks.due("mean(-1)", x.mean(-1), -2);
        Checks.due("mean(0) without CITY", new WaxedPartners().mean(0), -2);
        mean(Checks.told(EMPTY), 0, 1);
        mean(Checks.told(EMPTY + SMALL + SMALL), 2, 1);
        chance(Checks.told(EMPTY + SMALL + SMALL), 0, 1, 0, 1);
        // all are false, none is
        String two = PARTNERS + "join 0 1 wax 1;join 2 1 wax 1;door 4;";
        chance(Checks.told("city years 1 law 0 slump 0 odds 10;" + two), 0, 1, 0, 1);
        mean(Checks.told("city years 1 law 0 slump 0 odds 10;" + two), 3, 1);
        chance(Checks.told("city years 1 law 0 slump 0 odds 0;" + two), 0, 1, 1, 1);
        through(Checks.told("city years 1 law 0 slump 0 odds 0;" + two), 0, 0, 0, 1);
        // two JOINS of the same two: 1 - 1 / 4; by LAW 3 they are as wide as 5, 4, 3
        x = Checks.told("city years 1 law 3 slump 0 odds 5;" + PARTNERS
                + "join 0 1 wax 1;join 1 0 wax 1;door 3;door 4;");
        chance(x, 0, 1, 3, 4);
        through(x, 1, 0, 1, 2);
        through(x, 1, 1, 1, 1);
        // seven of one in ten: 9,999,999 of 10,000,000
        x = Checks.told("city years 1 law 0 slump 0 odds 1;" + PARTNERS + "join 0 1 wax 1;join 0 1 wax 1;"
                + "join 0 1 wax 1;join 0 1 wax 1;join 0 1 wax 1;join 0 1 wax 1;join 0 1 wax 1;");
        chance(x, 1, 0, 9999999, 10000000);
        mean(x, 20000001, 10000000);
    }

    private static void chancesAndActs() {
        Checks.section("CHANCE, acts as now");
        WaxedPartners x = Checks.told(CHAIN);
        x.weld(0, 2, 0, 1);
        chance(x, 0, 2, 1, 1);
        chance(x, 0, 1, 91, 100);
        x.snip(0, 1, 0);
        chance(x, 0, 1, 7, 10);
        x.undo();
        x.undo();
        x.snip(0, 1, 0);
        chance(x, 0, 1, 0, 1);
        mean(x, 23, 10);
        x.anew();
        x.weld(0, 2, 1, 9);
        chance(x, 0, 2, 49, 100);
    }

    private static void welds() {
        Checks.section("promise 55");
        WaxedPartners x = Checks.told(CHAIN);
        Checks.due("weld(0, 2, 2, 2)", x.weld(0, 2, 2, 2), 1);
        Checks.due("count(8)", x.count(8), 1);
        int[] due = {0, 0, 1, 1, 0};
        for (int y = 0; y < 5; y++) {
            Checks.due("tied(0, 2, " + y + ")", x.tied(0, 2, y), due[y]);
        }
        Checks.due("firm(2, 2)", x.firm(2, 2), 7);
        Checks.due("holds(2): told ones", x.holds(2), 1);
        Checks.due("weld(2, 0, 0, 9)", x.weld(2, 0, 0, 9), 1);
        Checks.due("tied(0, 2, 4)", x.tied(0, 2, 4), 1);
        int[][] bad = {{0, 0, 0, 1}, {3, 0, 0, 1}, {0, 3, 0, 1}, {-1, 0, 0, 1}, {0, -1, 0, 1},
            {0, 1, 5, 1}, {0, 1, -1, 1}, {0, 1, 0, 0}, {0, 1, 0, 10}, {0, 1, 0, -1}};
        for (int[] b : bad) {
            Checks.due("weld of none such", x.weld(b[0], b[1], b[2], b[3]), -2);
        }
        Checks.due("count(8)", x.count(8), 2);
        Checks.due("no CITY", new WaxedPartners().weld(0, 1, 0, 1), -2);
        // 0 is OUT from YEAR 1 on of -1: a JOIN of YEAR 2 is made in vain, one of YEAR 1 saves him
        String text = "city years 4 law 0 slump 6 odds 3;partner wide 1 worth 2 gains 3;"
                + "partner wide 1 worth 20 gains 0;cold 0 at 0;";
        x = Checks.told(text);
        Checks.due("weld(0, 1, 2, 1)", x.weld(0, 1, 2, 1), 0);
        Checks.due("it is an act", x.count(8), 1);
        Checks.due("out(3)", x.out(3), 1);
        Checks.due("weld(0, 1, 1, 1)", x.weld(0, 1, 1, 1), 1);
        Checks.due("out(1)", x.out(1), 0);
        Checks.due("tied(0, 1, 2) by the first", x.tied(0, 1, 2), 1);
        // a JOIN by which both are OUT holds no more
        x = Checks.told("city years 2 law 0 slump 9 odds 3;partner wide 1 worth 0 gains 0;"
                + "partner wide 1 worth 8 gains 0;cold 0 at 0;");
        Checks.due("weld(1, 0, 0, 2)", x.weld(1, 0, 0, 2), 1);
        Checks.due("out(1)", x.out(1), 3);
        Checks.due("tied(0, 1, 1)", x.tied(0, 1, 1), 0);
        x.anew();
        Checks.due("weld(1, 0, 1, 2)", x.weld(1, 0, 1, 2), 0);
    }

    private static void snips() {
        Checks.section("promise 56");
        WaxedPartners x = Checks.told(CHAIN + "join 1 0 wax 9;");
        Checks.due("snip(0, 1, 2)", x.snip(0, 1, 2), 1);
        Checks.due("holds(1)", x.holds(1), 7);
        Checks.due("holds(2): all of the two", x.holds(2), 0);
        Checks.due("parts(2)", x.parts(2), 2);
        Checks.due("snip(1, 0, 3)", x.snip(1, 0, 3), 0);
        Checks.due("snip(1, 0, 2), cut already", x.snip(1, 0, 2), 0);
        Checks.due("snip(1, 0, 1)", x.snip(1, 0, 1), 1);
        Checks.due("holds(1)", x.holds(1), 2);
        Checks.due("snip(0, 2, 0), never tied", x.snip(0, 2, 0), 0);
        Checks.due("count(8)", x.count(8), 5);
        int[][] bad = {{0, 0, 0}, {3, 0, 0}, {0, 3, 0}, {-1, 0, 0}, {0, -1, 0}, {0, 1, 5}, {0, 1, -1}};
        for (int[] b : bad) {
            Checks.due("snip of none such", x.snip(b[0], b[1], b[2]), -2);
        }
        Checks.due("count(8)", x.count(8), 5);
        Checks.due("no CITY", new WaxedPartners().snip(0, 1, 0), -2);
    }

    private static void orderOfActs() {
        Checks.section("II, acts in their order");
        WaxedPartners x = Checks.told(CHAIN);
        x.snip(0, 2, 3);
        x.weld(0, 2, 3, 1);
        Checks.due("made behind the cut of its YEAR", x.tied(0, 2, 3), 1);
        x.snip(2, 0, 3);
        Checks.due("cut behind", x.tied(0, 2, 3), 0);
        x.anew();
        x.weld(0, 2, 3, 2);
        x.snip(0, 2, 1);
        Checks.due("made in a YEAR behind the cut", x.tied(0, 2, 3), 1);
        x.anew();
        x.snip(0, 2, 3);
        x.weld(0, 2, 1, 9);
        Checks.due("tied(0, 2, 2)", x.tied(0, 2, 2), 1);
        Checks.due("made in a YEAR ahead of the cut", x.tied(0, 2, 3), 0);
        x.anew();
        x.snip(0, 1, 1);
        x.weld(0, 1, 2, 1);
        Checks.due("tied(0, 1, 1)", x.tied(0, 1, 1), 0);
        Checks.due("tied(0, 1, 2)", x.tied(0, 1, 2), 1);
        Checks.due("holds(2)", x.holds(2), 0);
    }

    private static void thirtyActs() {
        Checks.section("30 acts");
        WaxedPartners x = Checks.told(CHAIN);
        for (int i = 0; i < 15; i++) {
            Checks.due("weld " + i, x.weld(0, 2, 0, 9), 1);
            Checks.due("snip " + i, x.snip(0, 2, 0), 1);
        }
        Checks.due("weld 31", x.weld(0, 2, 0, 9), -5);
        Checks.due("snip 31", x.snip(0, 1, 0), -5);
        Checks.due("-2 ahead of -5", x.weld(0, 0, 0, 9), -2);
        Checks.due("-2 ahead of -5", x.weld(0, 1, 0, 10), -2);
        Checks.due("-2 ahead of -5", x.snip(0, 1, 5), -2);
        Checks.due("count(8)", x.count(8), 30);
        Checks.due("undo()", x.undo(), 29);
        Checks.due("weld 30", x.weld(1, 2, 4, 9), 1);
        Checks.due("weld 31", x.weld(0, 2, 0, 9), -5);
        Checks.due("tied(0, 2, 0): the snip is taken back", x.tied(0, 2, 0), 1);
    }

    private static void mostJoins() {
        Checks.section("7 JOINS told, 30 made, and one besides");
        StringBuilder text = new StringBuilder("city years 4 law 0 slump 6 odds 3;");
        text.append("partner wide 1 worth 2 gains 3;partner wide 1 worth 20 gains 0;").append(SMALL).append(SMALL);
        for (int j = 0; j < 7; j++) {
            text.append("join 2 3 wax 1;");
        }
        WaxedPartners x = Checks.told(text + "cold 0 at 0;");
        for (int i = 0; i < 29; i++) {
            x.weld(2, 3, 3, 9);
        }
        Checks.due("weld(2, 0, 0, 1)", x.weld(2, 0, 0, 1), 1);
        Checks.due("count(8)", x.count(8), 30);
        Checks.due("tied(2, 0, 0)", x.tied(2, 0, 0), 1);
        Checks.due("holds(0)", x.holds(0), 127);
        x.undo();
        x.weld(3, 2, 3, 1);
        Checks.due("when(0, 1)", x.when(0, 1), 1);
    }

    private static void takenBack() {
        Checks.section("promises 57, 58");
        WaxedPartners x = Checks.told(CHAIN);
        Checks.due("undo()", x.undo(), -5);
        Checks.due("anew()", x.anew(), 0);
        x.weld(0, 2, 3, 1);
        x.snip(0, 1, 1);
        Checks.due("undo()", x.undo(), 1);
        Checks.due("tied(0, 1, 1)", x.tied(0, 1, 1), 1);
        Checks.due("tied(0, 2, 3)", x.tied(0, 2, 3), 1);
        Checks.due("undo()", x.undo(), 0);
        Checks.due("tied(0, 2, 3)", x.tied(0, 2, 3), 0);
        Checks.due("undo()", x.undo(), -5);
        x.weld(0, 2, 3, 1);
        x.snip(0, 1, 1);
        Checks.due("anew()", x.anew(), 2);
        Checks.due("count(8)", x.count(8), 0);
        Checks.due("tied(0, 2, 3)", x.tied(0, 2, 3), 0);
        Checks.due("anew()", x.anew(), 0);
        Checks.due("undo() without CITY", new WaxedPartners().undo(), -2);
        Checks.due("anew() without CITY", new WaxedPartners().anew(), -2);
    }

    /**
     * Of seed 5 the draws are 5 7 6 7 3 4 4, of seed 0 0 8 8 7 8 7 5, of 2,000,000,000 4 3 1 7 6 2 7
     * and of those behind it 2 2 7 .., 2 2 3 ..
     */
    private static void drawn() {
        Checks.section("promise 59");
        // 1 is OUT from YEAR 2 on, if tied to 0 in YEAR 0
        String text = "city years 3 law 0 slump 9 odds 6;partner wide 1 worth 30 gains 0;"
                + "partner wide 1 worth 3 gains 0;partner wide 1 worth 3 gains 0;"
                + "join 0 1 wax 1;join 0 2 wax 1;join 2 1 wax 1;cold 0 at 0;";
        WaxedPartners x = Checks.told(text);
        Checks.due("drawn(5, 1)", x.drawn(5, 1), 1);
        Checks.due("drawn(5, 0)", x.drawn(5, 0), 4);
        Checks.due("drawn(0, 1)", x.drawn(0, 1), 1);
        Checks.due("drawn(2000000000, 1)", x.drawn(2000000000, 1), 7);
        Checks.due("drawn(2000000000, 0)", x.drawn(2000000000, 0), 0);
        Checks.due("drawn(2, 1)", x.drawn(2, 1), 0);
        Checks.due("drawn(2, 0)", x.drawn(2, 0), 6);
        x.weld(0, 1, 0, 1);
        Checks.due("drawn(5, 0), acts as now", x.drawn(5, 0), 6);
        x.anew();
        x.snip(0, 2, 0);
        Checks.due("drawn(5, 0), acts as now", x.drawn(5, 0), 0);
        Checks.due("drawn(-1, 0)", x.drawn(-1, 0), -2);
        Checks.due("drawn(2000000001, 0)", x.drawn(2000000001, 0), -2);
        Checks.due("drawn(5, 2)", x.drawn(5, 2), -2);
        Checks.due("drawn(5, -1)", x.drawn(5, -1), -2);
        Checks.due("no CITY", new WaxedPartners().drawn(5, 0), -2);
        x = Checks.told(EMPTY);
        Checks.due("drawn(5, 0) of nobody", x.drawn(5, 0), 0);
        Checks.due("drawn(5, 1) of nobody", x.drawn(5, 1), 0);
        String seven = "join 0 1 wax 1;join 0 1 wax 1;join 0 1 wax 1;join 0 1 wax 1;join 0 1 wax 1;"
                + "join 0 1 wax 1;join 0 1 wax 1;";
        x = Checks.told("city years 1 law 0 slump 0 odds 6;" + SMALL + SMALL + seven);
        Checks.due("drawn(5, 1) of seven", x.drawn(5, 1), 113);
        x = Checks.told("city years 1 law 0 slump 0 odds 0;" + SMALL + SMALL + seven);
        Checks.due("drawn(0, 1) of odds 0", x.drawn(0, 1), 0);
        x = Checks.told("city years 1 law 0 slump 0 odds 10;" + SMALL + SMALL + seven);
        Checks.due("drawn(0, 1) of odds 10", x.drawn(0, 1), 127);
    }

    private static void lucky() {
        Checks.section("promise 60");
        String text = "city years 3 law 0 slump 9 odds 6;partner wide 1 worth 30 gains 0;"
                + "partner wide 1 worth 3 gains 0;join 0 1 wax 1;cold 0 at 0;";
        WaxedPartners x = Checks.told(text);
        // the first draws of seeds 0 .. 9: 0 8 8 7 7 5 6 4 4 2; 1 is OUT if his is no less than 6
        Checks.due("luck(0, 1, 1)", x.luck(0, 1, 1), 0);
        Checks.due("luck(0, 10, 1)", x.luck(0, 10, 1), 5);
        Checks.due("luck(1, 1, 1)", x.luck(1, 1, 1), 1);
        Checks.due("luck(5, 3, 1)", x.luck(5, 3, 1), 1);
        Checks.due("luck(0, 10, 0)", x.luck(0, 10, 0), 0);
        Checks.due("luck(2000000000, 3, 1)", x.luck(2000000000, 3, 1), 0);
        x.weld(0, 1, 0, 1);
        Checks.due("luck(0, 20, 1), acts as now", x.luck(0, 20, 1), 20);
        Checks.due("luck(2000000000, 20, 1)", x.luck(2000000000, 20, 1), 20);
        Checks.due("luck(-1, 1, 1)", x.luck(-1, 1, 1), -2);
        Checks.due("luck(2000000001, 1, 1)", x.luck(2000000001, 1, 1), -2);
        Checks.due("luck(0, 0, 1)", x.luck(0, 0, 1), -2);
        Checks.due("luck(0, 21, 1)", x.luck(0, 21, 1), -2);
        Checks.due("luck(0, 1, 2)", x.luck(0, 1, 2), -2);
        Checks.due("luck(0, 1, -1)", x.luck(0, 1, -1), -2);
        Checks.due("no CITY", new WaxedPartners().luck(5, 1, 0), -2);
    }

    private static void rates() {
        Checks.section("promise 61");
        WaxedPartners x = Checks.told(CHAIN);
        Checks.due("rate(20)", x.rate(20), 4);
        Checks.due("count(2)", x.count(2), 20);
        Checks.due("worth(0, 1)", x.worth(0, 1), -9);
        Checks.due("rate(0)", x.rate(0), 20);
        Checks.due("worth(0, 1)", x.worth(0, 1), 11);
        Checks.due("rate(21)", x.rate(21), -2);
        Checks.due("rate(-1)", x.rate(-1), -2);
        x.weld(0, 1, 0, 1);
        Checks.due("rate(5)", x.rate(5), -5);
        Checks.due("-2 ahead of -5", x.rate(21), -2);
        Checks.due("count(2)", x.count(2), 0);
        x.undo();
        Checks.due("rate(5)", x.rate(5), 0);
        Checks.due("anew()", x.anew(), 0);
        Checks.due("it is no act", x.count(2), 5);
        Checks.due("no CITY", new WaxedPartners().rate(5), -2);
    }

    private static void images() {
        Checks.section("promises 63, 64");
        WaxedPartners x = Checks.told(CHAIN);
        Checks.due("back(0)", x.back(0), -6);
        Checks.due("back(3)", x.back(3), -2);
        Checks.due("back(-1)", x.back(-1), -2);
        Checks.due("image(3)", x.image(3), -2);
        Checks.due("image(-1)", x.image(-1), -2);
        x.rate(7);
        x.weld(0, 2, 3, 1);
        Checks.due("image(2)", x.image(2), 0);
        Checks.due("back(1)", x.back(1), -6);
        x.snip(0, 1, 0);
        x.undo();
        x.undo();
        x.snip(1, 2, 0);
        Checks.read(x, "city years 3 law 2 slump 1 odds 1;" + SMALL + SMALL + SMALL + SMALL
                + "join 3 2 wax 9;door 60;door 50;door 40;cold 3 at 1;cold 2 at 1;");
        Checks.feed(x, "door");
        x.row(1, 1, 5);
        Checks.due("image(0)", x.image(0), 0);
        Checks.due("back(2)", x.back(2), 0);
        int[] counts = {5, 0, 7, 3, 3, 2, 2, 1, 1, 9, 4, 1};
        for (int what = 0; what < counts.length; what++) {
            Checks.due("count(" + what + ")", x.count(what), counts[what]);
        }
        Checks.due("tied(0, 2, 3)", x.tied(0, 2, 3), 1);
        Checks.due("tied(1, 2, 0)", x.tied(1, 2, 0), 1);
        Checks.due("partner(0, 1)", x.partner(0, 1), 10);
        Checks.due("colds(1)", x.colds(1), 2);
        Checks.due("an act ahead of an undo", x.undo(), 0);
        Checks.due("back(2), the same again", x.back(2), 0);
        Checks.due("count(8)", x.count(8), 1);
        Checks.due("back(0)", x.back(0), 0);
        Checks.due("count(4)", x.count(4), 4);
        Checks.due("door(2)", x.door(2), 40);
        Checks.due("join(0, 0)", x.join(0, 0), 3);
        Checks.due("colds(1)", x.colds(1), 12);
        Checks.due("count(8)", x.count(8), 0);
        x.end(0);
        x.city();
        Checks.due("image(0) of no CITY", x.image(0), 0);
        x.back(2);
        Checks.due("back(0)", x.back(0), 0);
        Checks.due("no CITY", x.firms(0), -2);
        Checks.due("no CITY", x.count(9), 0);
    }
}
