/** Promises 29 to 41: sets at a DOOR, SHARES, snips, guards, the one who sneezes. */
public final class SetsTest {
    private static final String PARTNERS = "partner wide 3 worth 10 gains 1;"
            + "partner wide 2 worth 5 gains 0;partner wide 4 worth 8 gains 2;";
    private static final String CHAIN = "city years 5 law 0 slump 4 odds 3;" + PARTNERS
            + "join 0 1 wax 3;join 1 2 wax 2;door 5;door 9;cold 0 at 0;";
    private static final String EMPTY = "city years 2 law 0 slump 0 odds 0;";
    private static final String SMALL = "partner wide 1 worth 0 gains 0;";

    public static void main(String[] args) {
        bestSets();
        partings();
        shares();
        fairness();
        hugeGifts();
        refusedGifts();
        snips();
        snipsAndActs();
        guards();
        sneezers();
        Checks.end();
    }

    private static void best(WaxedPartners x, int door, int worth, int set) {
        Checks.due("promise 29: best(" + door + ")", x.best(door), worth);
        Checks.due("promise 30: bests(" + door + ")", x.bests(door), set);
    }

    private static void parted(WaxedPartners x, int door, int fewest, int ways) {
        Checks.due("promise 31: sets(" + door + ")", x.sets(door), fewest);
        Checks.due("promise 32: ways(" + door + ")", x.ways(door), ways);
    }

    private static void bestSets() {
        Checks.section("BEST");
        WaxedPartners x = Checks.told(CHAIN);
        best(x, 0, 15, 3);
        best(x, 1, 23, 7);
        best(x, 2, -2, -2);
        best(x, -1, -2, -2);
        x.snip(0, 1, 0);
        x.weld(0, 2, 0, 9);
        best(x, 0, 15, 3);
        // by LAW 1 no set with 2, by LAW 2 at most two, by LAW 3 {0, 2} is 3 + 4 - 1
        best(Checks.told("city years 1 law 1 slump 0 odds 0;" + PARTNERS + "door 3;"), 0, 15, 3);
        best(Checks.told("city years 1 law 2 slump 0 odds 0;" + PARTNERS + "door 5;"), 0, 18, 5);
        best(Checks.told("city years 1 law 3 slump 0 odds 0;" + PARTNERS + "door 6;"), 0, 18, 5);
        best(Checks.told("city years 1 law 3 slump 0 odds 0;" + PARTNERS + "door 7;"), 0, 23, 7);
        best(Checks.told("city years 1 law 0 slump 0 odds 0;" + PARTNERS + "door 1;"), 0, 0, 0);
        best(Checks.told(EMPTY + SMALL + SMALL + "door 9;"), 0, 0, 0);
        best(Checks.told(EMPTY + "door 9;"), 0, 0, 0);
        String alike = "partner wide 2 worth 7 gains 0;";
        best(Checks.told(EMPTY + SMALL + alike + alike + alike + "door 4;"), 0, 14, 6);
    }

    private static void partings() {
        Checks.section("parted");
        WaxedPartners x = Checks.told(CHAIN);
        parted(x, 0, 2, 1);
        parted(x, 1, 1, 1);
        parted(x, 2, -2, -2);
        parted(x, -1, -2, -2);
        parted(Checks.told(EMPTY + "door 1;"), 0, 0, 1);
        parted(Checks.told(EMPTY + "partner wide 2 worth 0 gains 0;" + SMALL + "door 1;"), 0, -1, -1);
        parted(Checks.told(EMPTY + SMALL + SMALL + SMALL + SMALL + "door 2;"), 0, 2, 3);
        parted(Checks.told(EMPTY + SMALL + SMALL + SMALL + SMALL + SMALL + "door 2;"), 0, 3, 15);
        parted(Checks.told(EMPTY + SMALL + SMALL + SMALL + SMALL + SMALL + SMALL + "door 3;door 4;door 1;"),
                0, 2, 10);
        // 10 of three and three, 15 of four and two
        parted(Checks.told(EMPTY + SMALL + SMALL + SMALL + SMALL + SMALL + SMALL + "door 3;door 4;door 1;"),
                1, 2, 25);
        parted(Checks.told(EMPTY + SMALL + SMALL + SMALL + SMALL + SMALL + SMALL + "door 3;door 4;door 1;"),
                2, 6, 1);
    }

    private static void share(WaxedPartners x, int partner, int door, int above, int below) {
        String at = "share(" + partner + ", " + door + ", ";
        Checks.due(at + "0)", x.share(partner, door, 0), above);
        Checks.due(at + "1)", x.share(partner, door, 1), below);
    }

    private static void shares() {
        Checks.section("promise 33");
        WaxedPartners x = Checks.told(CHAIN);
        share(x, 0, 0, 11, 3);
        share(x, 1, 0, 7, 6);
        share(x, 2, 0, -29, 6);
        share(x, 0, 1, 10, 1);
        share(x, 1, 1, 5, 1);
        share(x, 2, 1, 8, 1);
        share(Checks.told(EMPTY + SMALL + "door 1;"), 0, 0, 0, 1);
        // two of 6 who do not go through together: each 6 first, -6 behind
        String six = "partner wide 2 worth 6 gains 0;";
        share(Checks.told(EMPTY + six + six + "door 2;"), 0, 0, 0, 1);
        Checks.due("share(3, 0, 0)", x.share(3, 0, 0), -2);
        Checks.due("share(-1, 0, 0)", x.share(-1, 0, 0), -2);
        Checks.due("share(0, 2, 0)", x.share(0, 2, 0), -2);
        Checks.due("share(0, -1, 0)", x.share(0, -1, 0), -2);
        Checks.due("share(0, 0, 2)", x.share(0, 0, 2), -2);
        Checks.due("share(0, 0, -1)", x.share(0, 0, -1), -2);
    }

    private static void gifts(WaxedPartners x, int door, int fair, int leave) {
        Checks.due("promise 34: fair(1, " + door + ")", x.fair(1, door), fair);
        Checks.due("promise 35: leave(1, " + door + ")", x.leave(1, door), leave);
    }

    private static void fairness() {
        Checks.section("FAIR");
        WaxedPartners x = Checks.told(CHAIN);
        Checks.fill(x, 1, 1, 10, 5, 8);
        gifts(x, 1, 1, -1);
        gifts(x, 0, 0, -1);
        Checks.fill(x, 1, 1, 11, 5, 7);
        gifts(x, 1, 0, 4);
        Checks.fill(x, 1, 1, 11, 5, 8);
        gifts(x, 1, 0, -1);
        Checks.fill(x, 1, 1, 9, 6, 8);
        gifts(x, 1, 0, 1);
        Checks.fill(x, 1, 1, 12, 2, 9);
        gifts(x, 1, 0, 2);
        Checks.fill(x, 1, 1, 10, 5, -15);
        gifts(x, 0, 0, 4);
        // alone each has what he is worth, but {1, 2}, who go through, are worth more
        x = Checks.told("city years 1 law 3 slump 0 odds 0;" + PARTNERS + "door 5;");
        Checks.fill(x, 1, 2, 10, 5, 8);
        gifts(x, 0, 0, -1);
        Checks.fill(x, 1, 2, -20, 12, 8);
        gifts(x, 0, 0, 1);
        x = Checks.told(EMPTY + "partner wide 9 worth 7 gains 0;" + SMALL + "door 4;");
        Checks.fill(x, 1, 0, 0, 0);
        gifts(x, 0, 1, -1);
        Checks.fill(x, 1, 0, 1, -1);
        gifts(x, 0, 0, 2);
        Checks.fill(x, 1, 0, -1, 1);
        gifts(x, 0, 0, 1);
        Checks.fill(x, 1, 0, 255, 1);
        gifts(x, 0, 0, 1);
        Checks.fill(x, 1, 0, 256, 512);
        gifts(x, 0, 1, -1);
        x = Checks.told(EMPTY + "door 1;");
        x.row(1, 2, 0);
        gifts(x, 0, 1, -1);
    }

    private static void hugeGifts() {
        Checks.section("FAIR beyond a long");
        long max = Long.MAX_VALUE;
        long min = Long.MIN_VALUE;
        WaxedPartners x = Checks.told(CHAIN);
        Checks.fill(x, 1, 3, max, max, min);
        gifts(x, 1, 0, 4);
        Checks.fill(x, 1, 3, max, max, 25);
        gifts(x, 1, 0, -1);
        Checks.fill(x, 1, 3, max, min, max);
        gifts(x, 1, 0, 2);
        Checks.fill(x, 1, 3, min, min, 23);
        gifts(x, 1, 0, 1);
        Checks.fill(x, 1, 3, 10, 5, 8 + (1L << 32));
        gifts(x, 1, 0, -1);
    }

    private static void refusedGifts() {
        Checks.section("FAIR refused");
        WaxedPartners x = Checks.told(CHAIN);
        gifts(x, 0, -6, -6);
        gifts(x, 2, -2, -2);
        gifts(x, -1, -2, -2);
        x.row(1, 0, 2);
        gifts(x, 0, -2, -2);
        x.row(1, 0, 4);
        gifts(x, 0, -2, -2);
        x.row(1, 0, 0);
        gifts(x, 0, -2, -2);
        for (int slot : new int[] {-1, 4, Integer.MIN_VALUE}) {
            Checks.due("fair(" + slot + ", 0)", x.fair(slot, 0), -2);
            Checks.due("leave(" + slot + ", 0)", x.leave(slot, 0), -2);
        }
        x.city();
        x.row(1, 0, 0);
        gifts(x, 0, -2, -2);
        Checks.due("fair(0, 0) without CITY", x.fair(0, 0), -2);
        Checks.due("leave(0, 0) without CITY", x.leave(0, 0), -2);
    }

    private static void cut(WaxedPartners x, int partner, int other, int fewest, int which, int wax) {
        String at = "(" + partner + ", " + other + ")";
        Checks.due("promise 36: snips" + at, x.snips(partner, other), fewest);
        Checks.due("promise 37: snipped" + at, x.snipped(partner, other), which);
        Checks.due("promise 38: wax" + at, x.wax(partner, other), wax);
    }

    private static void snips() {
        Checks.section("SNIPS");
        WaxedPartners x = Checks.told(CHAIN);
        cut(x, 0, 2, 1, 1, 2);
        cut(x, 2, 0, 1, 1, 2);
        cut(x, 0, 1, 1, 1, 3);
        cut(x, 1, 2, 1, 2, 2);
        cut(x, 1, 1, -2, -2, -2);
        cut(x, 3, 1, -2, -2, -2);
        cut(x, 1, 3, -2, -2, -2);
        cut(x, -1, 1, -2, -2, -2);
        cut(x, 1, -1, -2, -2, -2);
        x = Checks.told("city years 5 law 0 slump 4 odds 3;" + PARTNERS
                + "join 0 1 wax 9;join 1 2 wax 2;join 2 1 wax 3;");
        cut(x, 0, 2, 1, 1, 5);
        cut(x, 1, 2, 2, 6, 5);
        x = Checks.told(EMPTY + PARTNERS + "join 0 1 wax 4;join 1 0 wax 3;join 1 2 wax 9;");
        cut(x, 0, 2, 1, 4, 7);
        x = Checks.told(EMPTY + PARTNERS + "join 0 1 wax 9;");
        cut(x, 0, 2, 0, 0, 0);
        // two ways round a square, from corner to corner
        x = Checks.told(EMPTY + PARTNERS + SMALL
                + "join 0 1 wax 5;join 1 2 wax 4;join 2 3 wax 9;join 3 0 wax 2;");
        cut(x, 0, 2, 2, 5, 6);
        cut(x, 1, 3, 2, 3, 6);
        cut(x, 0, 1, 2, 3, 7);
    }

    private static void snipsAndActs() {
        Checks.section("SNIPS with acts");
        WaxedPartners x = Checks.told(CHAIN);
        x.weld(0, 2, 1, 9);
        cut(x, 0, 2, 1, 1, 2);
        x.weld(0, 2, 0, 1);
        cut(x, 0, 2, -1, -1, -1);
        cut(x, 0, 1, 2, 3, 5);
        x.weld(0, 1, 0, 1);
        cut(x, 0, 1, -1, -1, -1);
        x.anew();
        x.snip(0, 1, 0);
        cut(x, 0, 2, 0, 0, 0);
        cut(x, 1, 2, 1, 2, 2);
    }

    private static void guarded(WaxedPartners x, int partner, int fewest, int which) {
        Checks.due("promise 39: guards(" + partner + ")", x.guards(partner), fewest);
        Checks.due("promise 40: guarded(" + partner + ")", x.guarded(partner), which);
    }

    private static void guards() {
        Checks.section("GUARDS");
        WaxedPartners x = Checks.told(CHAIN);
        guarded(x, 0, -1, -1);
        guarded(x, 1, 1, 1);
        guarded(x, 2, 1, 1);
        guarded(x, 3, -2, -2);
        guarded(x, -1, -2, -2);
        x = Checks.told("city years 5 law 0 slump 0 odds 3;" + PARTNERS + SMALL
                + "join 0 2 wax 9;join 1 2 wax 9;cold 0 at 0;cold 1 at 1;cold 3 at 5;");
        guarded(x, 2, 2, 3);
        guarded(x, 3, 0, 0);
        guarded(x, 0, -1, -1);
        // all ways lead by 2: to keep him in is enough
        x = Checks.told("city years 5 law 0 slump 0 odds 3;" + PARTNERS + SMALL
                + "join 0 2 wax 9;join 1 2 wax 9;join 2 3 wax 9;cold 0 at 0;cold 1 at 1;");
        guarded(x, 3, 1, 4);
        x.snip(2, 3, 1);
        guarded(x, 3, 0, 0);
    }

    private static void sneezers() {
        Checks.section("promise 41");
        Checks.due("CHAIN", Checks.told(CHAIN).sneezer(), 0);
        WaxedPartners x = Checks.told("city years 5 law 0 slump 0 odds 3;" + PARTNERS
                + "join 0 1 wax 9;join 1 2 wax 1;");
        Checks.due("sneezer()", x.sneezer(), 1);
        x.weld(1, 2, 1, 1);
        Checks.due("sneezer(), the first of several", x.sneezer(), 0);
        Checks.due("told besides for this alone", x.colds(0), 0);
        Checks.due("nobody", Checks.told(EMPTY).sneezer(), -1);
        Checks.due("no CITY", new WaxedPartners().sneezer(), -2);
        // 2 is not told a COLD yet: with him there are two, with 0 or 1 but one
        x = Checks.told(EMPTY + SMALL + SMALL + SMALL + "cold 0 at 0;cold 1 at 0;");
        Checks.due("besides", x.sneezer(), 2);
    }
}
