/** Promises 29 to 41: each bound of DOORS, sets, gifts, snips and guards, from both its sides. */
public final class SetsBoundsTest {
    private static final String THREE = "partner wide 3 worth 10 gains 1;partner wide 2 worth 5 gains 0;"
            + "partner wide 4 worth 8 gains 2;";
    /** Through DOOR 0 go 0, 1, 2 and {0, 1}; through DOOR 1 all. */
    private static final String CHAIN = "city years 5 law 0 slump 4 odds 3;" + THREE
            + "join 0 1 wax 3;join 1 2 wax 2;door 5;door 9;cold 0 at 0;";
    private static final String P = "partner wide 1 worth 0 gains 0;";

    private SetsBoundsTest() {
    }

    public static void main(String[] args) {
        doorsAsked();
        partnersAsked();
        withoutCity();
        bestAboutTheWidth();
        bestOfNobody();
        leastOfTheBest();
        partedAboutTheWidth();
        fewestSets();
        shares();
        giftsAboutTheWorth();
        asManyAsPartners();
        slotsOfGifts();
        greatGifts();
        snipsOfMany();
        snipsAndActs();
        leastCut();
        guards();
        sneezers();
        Checks.end();
    }

    private static String head(int years, int law) {
        return "city years " + years + " law " + law + " slump 0 odds 5;";
    }

    private static String partner(int wide, int worth) {
        return "partner wide " + wide + " worth " + worth + " gains 0;";
    }

    private static void gifts(Runs run, int slot, int width, long... numbers) {
        run.calls("row " + slot + " " + width + " " + numbers.length + " = 0");
        for (int i = 0; i < numbers.length; i++) {
            run.calls("write " + slot + " " + i + " " + numbers[i] + " = 0");
        }
    }

    private static void doorsAsked() {
        Runs run = new Runs("promises 29 to 35, DOORS", CHAIN);
        gifts(run, 0, 0, 10, 5, 8);
        run.each("best #", -1, -2, 15, 23, -2, -2);
        run.each("bests #", -1, -2, 3, 7, -2, -2);
        run.each("sets #", -1, -2, 2, 1, -2, -2);
        run.each("ways #", -1, -2, 1, 1, -2, -2);
        run.each("share 0 # 0", -1, -2, 11, 10, -2, -2);
        run.each("share 0 # 1", -1, -2, 3, 1, -2, -2);
        run.each("fair 0 #", -1, -2, 0, 1, -2, -2);
        run.each("leave 0 #", -1, -2, -1, -1, -2, -2);
        for (String call : new String[] {"best #", "bests #", "sets #", "ways #", "share 0 # 0", "share 0 0 #",
            "fair 0 #", "leave 0 #", "fair # 0", "leave # 0"}) {
            run.far(call, -2);
        }
        run.end();
    }

    private static void partnersAsked() {
        Runs run = new Runs("promises 33 to 40, PARTNERS", CHAIN);
        run.each("share # 1 0", -1, -2, 10, 5, 8, -2, -2);
        run.each("share 2 0 #", -1, -2, -29, 6, -2, -2);
        run.each("snips # 1", -1, -2, 1, -2, 1, -2);
        run.each("snips 1 #", -1, -2, 1, -2, 1, -2);
        run.each("snipped # 1", -1, -2, 1, -2, 2, -2);
        run.each("snipped 1 #", -1, -2, 1, -2, 2, -2);
        run.each("wax # 1", -1, -2, 3, -2, 2, -2);
        run.each("wax 1 #", -1, -2, 3, -2, 2, -2);
        run.calls("snips 0 0 = -2", "snipped 2 2 = -2", "wax 3 3 = -2", "wax 0 0 = -2");
        run.each("guards #", -1, -2, -1, 1, 1, -2);
        run.each("guarded #", -1, -2, -1, 1, 1, -2);
        for (String call : new String[] {"share # 0 0", "snips # 0", "snips 0 #", "snipped # 0", "snipped 0 #",
            "wax # 0", "wax 0 #", "guards #", "guarded #"}) {
            run.far(call, -2);
        }
        run.end();
    }

    private static void withoutCity() {
        String[] calls = {"best 0", "bests 0", "sets 0", "ways 0", "share 0 0 0", "fair 0 0", "leave 0 0", "fair 1 0",
            "leave 1 0", "snips 0 1", "snipped 0 1", "wax 0 1", "guards 0", "guarded 0", "sneezer"};
        Runs run = new Runs("promises 29 to 41, no CITY");
        gifts(run, 0, 0);
        for (int i = 0; i < 2; i++) {
            for (String call : calls) {
                run.calls(call + " = -2");
            }
            run.text(CHAIN);
            run.calls("city = 9", "best 0 = 15", "city = 0");
        }
        run.end();
    }

    private static void bestAboutTheWidth() {
        // two of 3 and 4: together 7, 4, 4, 6 wide; alone 4 and 3, or 2 by LAW 2
        int[] wide = {7, 4, 4, 6};
        for (int law = 0; law < 4; law++) {
            for (int door = 1; door <= 8; door++) {
                Runs run = new Runs("IV, a DOOR of " + door + " by LAW " + law, head(1, law) + partner(3, 20)
                        + partner(4, 30) + "door " + door + ";");
                boolean both = door >= wide[law];
                boolean first = door >= (law == 2 ? 2 : 3);
                boolean second = door >= (law == 2 ? 2 : 4);
                int best = both ? 50 : second ? 30 : first ? 20 : 0;
                run.calls("best 0 = " + best, "bests 0 = " + (both ? 3 : second ? 2 : first ? 1 : 0),
                        "sets 0 = " + (both ? 1 : first && second ? 2 : -1),
                        "ways 0 = " + (first && second ? 1 : -1));
                // acts, JOINS aside
                run.calls("weld 0 1 0 1 = 1", "weld 1 0 0 1 = 1", "best 0 = " + best, "snip 0 1 0 = 1",
                        "best 0 = " + best);
                run.end();
            }
        }
    }

    private static void bestOfNobody() {
        Runs run = new Runs("IV, nobody goes through each", head(2, 0) + partner(2, 9) + partner(9, 99) + "door 1;"
                + "door 2;door 8;door 9;door 10;");
        run.each("best #", 0, 0, 9, 9, 99, 99);
        run.each("bests #", 0, 0, 1, 1, 2, 2);
        run.each("sets #", 0, -1, -1, -1, 2, 2);
        run.each("ways #", 0, -1, -1, -1, 1, 1);
        run.end();
        run = new Runs("no PARTNERS at a DOOR", head(2, 0) + "door 1;");
        run.calls("best 0 = 0", "bests 0 = 0", "sets 0 = 0", "ways 0 = 1", "share 0 0 0 = -2", "sneezer = -1",
                "guards 0 = -2", "fair 0 0 = -6", "leave 0 0 = -6", "row 0 0 0 = 0", "fair 0 0 = 1", "leave 0 0 = -1",
                "row 0 0 1 = 0", "fair 0 0 = -2", "leave 0 0 = -2");
        run.end();
    }

    private static void leastOfTheBest() {
        Runs run = new Runs("promise 30, the least set", head(1, 2) + partner(1, 0) + partner(1, 7) + partner(1, 0)
                + partner(1, 7) + partner(1, 7) + partner(1, 0) + "door 1;door 2;door 3;door 4;door 6;");
        run.calls("best 0 = 0", "bests 0 = 0", "best 1 = 7", "bests 1 = 2", "best 2 = 7", "bests 2 = 2",
                "best 3 = 14", "bests 3 = 10", "best 4 = 21", "bests 4 = 26");
        run.end();
        run = new Runs("promise 30, all of worth 0", head(1, 0) + P + P + "door 60;");
        run.calls("best 0 = 0", "bests 0 = 0", "sets 0 = 1", "ways 0 = 1");
        run.end();
        run = new Runs("promise 29, the most", head(1, 0) + partner(9, 99).repeat(6) + "door 54;door 53;door 9;door 8;");
        run.each("best #", 0, 594, 495, 99, 0, -2);
        run.each("bests #", 0, 63, 31, 1, 0, -2);
        run.each("sets #", 0, 1, 2, 6, -1, -2);
        run.each("ways #", 0, 1, 31, 1, -1, -2);
        run.end();
    }

    private static void partedAboutTheWidth() {
        // pairs of 6 by LAW 3: 2 + 2 - 1; of three: 4; of four: 5; of six: 7
        Runs run = new Runs("promise 31, one JOIN less than they are", head(1, 3) + partner(2, 1).repeat(6)
                + "door 1;door 2;door 3;door 6;door 7;");
        run.each("sets #", 0, -1, 6, 3, 2, 1, -2);
        run.each("ways #", 0, -1, 1, 15, 31, 1, -2);
        run.each("best #", 0, 0, 1, 2, 5, 6, -2);
        run.end();
    }

    private static void fewestSets() {
        for (int n = 1; n <= 6; n++) {
            Runs run = new Runs("promise 32, " + n + " PARTNERS", head(1, 0) + P.repeat(n) + "door 1;door 2;door "
                    + n + ";");
            int[] waysInPairs = {1, 1, 3, 3, 15, 15};
            run.calls("sets 0 = " + n, "ways 0 = 1", "sets 1 = " + (n + 1) / 2, "ways 1 = " + waysInPairs[n - 1],
                    "sets 2 = 1", "ways 2 = 1", "sets 3 = -2");
            run.end();
        }
        Runs run = new Runs("promise 31, one who can not", head(1, 1) + partner(5, 1) + partner(6, 1) + "door 5;door 6;");
        run.calls("sets 0 = -1", "ways 0 = -1", "sets 1 = 1", "ways 1 = 1");
        run.end();
    }

    private static void shares() {
        Runs run = new Runs("V, SHARE of one", head(1, 0) + partner(4, 99) + "door 3;door 4;");
        run.calls("share 0 0 0 = 0", "share 0 0 1 = 1", "share 0 1 0 = 99", "share 0 1 1 = 1", "share 0 2 0 = -2",
                "share 1 0 0 = -2", "share 0 0 2 = -2", "share 0 0 -1 = -2");
        run.end();
        run = new Runs("V, SHARE below 0", head(1, 0) + partner(4, 7) + partner(4, 4) + "door 7;door 8;");
        run.calls("share 0 0 0 = 3", "share 0 0 1 = 2", "share 1 0 0 = -3", "share 1 0 1 = 2", "share 0 1 0 = 7",
                "share 1 1 0 = 4", "share 1 1 1 = 1");
        run.end();
        // 5 of 6 go through, and not all: 99 first to fifth, and all 495 are lost by the sixth
        run = new Runs("V, SHARES of six", head(1, 0) + partner(1, 99).repeat(6) + "door 5;door 6;door 1;");
        for (int p = 0; p < 6; p++) {
            run.calls("share " + p + " 0 0 = 0", "share " + p + " 0 1 = 1", "share " + p + " 1 0 = 99",
                    "share " + p + " 1 1 = 1", "share " + p + " 2 0 = 0", "share " + p + " 2 1 = 1");
        }
        run.end();
        // 0 is too wide for each: he has what he loses them all, the mean of 0, 1, .., 5 of 7
        run = new Runs("V, SHARE of one too wide", head(1, 0) + partner(9, 3) + partner(1, 7).repeat(5) + "door 5;");
        run.calls("share 0 0 0 = -35", "share 0 0 1 = 2", "share 1 0 0 = 7", "share 1 0 1 = 2", "share 5 0 0 = 7",
                "share 5 0 1 = 2");
        run.end();
    }

    private static void giftsAboutTheWorth() {
        Runs run = new Runs("FAIR about what they are worth", CHAIN);
        int[][] given = {{10, 5, 7}, {10, 5, 8}, {10, 5, 9}, {9, 5, 9}, {9, 6, 8}, {11, 5, 8}, {11, 4, 8}, {12, 4, 7},
            {11, 5, 7}, {9, 4, 7}, {9, 4, 10}};
        int[] fair = {0, 1, 0, 0, 0, 0, 0, 0, 0, 0, 0};
        int[] leave = {4, -1, -1, 1, 1, -1, 2, 2, 4, 1, 1};
        for (int i = 0; i < given.length; i++) {
            for (int width = 0; width < 4; width += 3) {
                gifts(run, 2, width, given[i][0], given[i][1], given[i][2]);
                run.calls("fair 2 1 = " + fair[i], "leave 2 1 = " + leave[i], "fair 2 0 = 0", "leave 2 0 = " + leave[i]);
            }
        }
        run.end();
        // through none they are worth 0
        run = new Runs("FAIR at a DOOR of nobody", head(1, 0) + partner(2, 9) + partner(3, 8) + "door 1;door 2;");
        int[][] alike = {{0, 0, 1, -1}, {1, -1, 0, 2}, {-1, 1, 0, 1}, {1, 0, 0, -1}, {0, -1, 0, 2}};
        for (int[] a : alike) {
            gifts(run, 3, 1, a[0], a[1]);
            run.calls("fair 3 0 = " + a[2], "leave 3 0 = " + a[3]);
        }
        // through DOOR 1 goes 0 alone, all together are worth 0
        gifts(run, 3, 1, 9, -9);
        run.calls("fair 3 1 = 0", "leave 3 1 = 2");
        gifts(run, 3, 1, 9, 0);
        run.calls("fair 3 1 = 0", "leave 3 1 = -1");
        gifts(run, 3, 1, 8, 0);
        run.calls("fair 3 1 = 0", "leave 3 1 = 1");
        run.end();
        // by LAW 3 one more of them would be narrower: there is no such one, and none that would leave
        run = new Runs("FAIR of those told alone", head(1, 3) + partner(5, 10) + partner(1, 10) + "door 4;door 5;");
        gifts(run, 0, 0, 0, 10);
        run.calls("leave 0 0 = -1", "fair 0 0 = 0", "leave 0 1 = 1", "fair 0 1 = 0");
        gifts(run, 0, 0, -10, 10);
        run.calls("leave 0 0 = 1", "fair 0 0 = 0");
        gifts(run, 0, 0, 10, 10);
        run.calls("leave 0 0 = -1", "fair 0 0 = 0", "leave 0 1 = -1", "fair 0 1 = 1");
        run.end();
        // by DOOR 0 nobody goes, by DOOR 1 all: each DOOR has its own sets that would leave
        run = new Runs("FAIR, DOOR by DOOR", head(1, 0) + partner(3, 10) + partner(2, 5) + partner(4, 8)
                + "door 1;door 9;");
        gifts(run, 0, 0, 9, 6, 8);
        run.calls("fair 0 0 = 0", "leave 0 0 = -1", "fair 0 1 = 0", "leave 0 1 = 1");
        gifts(run, 0, 0, 0, 0, 0);
        run.calls("fair 0 0 = 1", "leave 0 0 = -1", "fair 0 1 = 0", "leave 0 1 = 1");
        gifts(run, 0, 0, 10, 5, 8);
        run.calls("fair 0 0 = 0", "leave 0 0 = -1", "fair 0 1 = 1", "leave 0 1 = -1");
        run.end();
    }

    private static void asManyAsPartners() {
        for (int partners = 1; partners <= 6; partners++) {
            Runs run = new Runs("FAIR, as many numbers as " + partners + " PARTNERS", head(1, 0) + P.repeat(partners)
                    + "door 9;");
            for (int n : new int[] {0, partners - 1, partners, partners + 1, 60}) {
                run.calls("row 1 2 " + n + " = 0");
                boolean told = n == partners;
                run.calls("fair 1 0 = " + (told ? 1 : -2), "leave 1 0 = " + (told ? -1 : -2), "fair 1 1 = -2",
                        "leave 1 -1 = -2");
            }
            run.end();
        }
    }

    private static void slotsOfGifts() {
        Runs run = new Runs("FAIR, SLOTS", CHAIN);
        run.each("fair # 1", -1, -2, -6, -6, -6, -6, -2);
        run.each("leave # 1", -1, -2, -6, -6, -6, -6, -2);
        run.each("fair # 2", -1, -2, -2, -2, -2, -2, -2);
        run.each("leave # -1", -1, -2, -2, -2, -2, -2, -2);
        gifts(run, 0, 0, 10, 5, 8);
        gifts(run, 3, 3, 10, 5, 7);
        run.each("fair # 1", -1, -2, 1, -6, -6, 0, -2);
        run.each("leave # 1", -1, -2, -1, -6, -6, 4, -2);
        run.end();
    }

    private static void greatGifts() {
        Runs run = new Runs("FAIR, the greatest numbers and the least", CHAIN);
        run.calls("row 0 3 3 = 0", "write 0 0 MAX = 0", "write 0 1 MAX = 0", "write 0 2 MAX = 0", "fair 0 1 = 0",
                "leave 0 1 = -1", "write 0 2 MIN = 0", "leave 0 1 = 4", "write 0 1 MIN = 0", "leave 0 1 = 2",
                "write 0 0 MIN = 0", "leave 0 1 = 1", "fair 0 1 = 0");
        // together just 23 by the wrap of a long alone: 2 to the 64 and 23
        long half = 1L << 62;
        gifts(run, 0, 3, half, half, half);
        run.calls("leave 0 1 = -1", "fair 0 1 = 0", "write 0 0 " + (Long.MAX_VALUE - 1) + " = 0",
                "write 0 1 " + Long.MAX_VALUE + " = 0", "write 0 2 26 = 0", "leave 0 1 = -1", "fair 0 1 = 0");
        // together just 23 in truth, though the first two wrap
        run.calls("write 0 0 MAX = 0", "write 0 1 MAX = 0", "leave 0 1 = -1", "fair 0 1 = 0");
        run.end();
        // together just 5 by the wrap of an int alone, or if a carry or a high half were lost
        run = new Runs("FAIR about 2 to the 32", head(1, 1) + partner(1, 0) + partner(1, 5) + partner(1, 0) + "door 9;");
        long wrap = 1L << 32;
        long[][] great = {{wrap, 5, 0}, {wrap - 1, 6, 0}, {0, 6, wrap - 1}, {0, wrap + 5, 0}, {0, 5, wrap},
            {wrap - 1, 5, 0}, {0, 5, wrap - 1}, {wrap - 3, 5, 3}, {wrap / 2, 5, wrap / 2}, {wrap, wrap, 0}};
        for (long[] given : great) {
            gifts(run, 0, 3, given);
            run.calls("leave 0 0 = -1", "fair 0 0 = 0");
        }
        gifts(run, 0, 2, Integer.MAX_VALUE, Integer.MAX_VALUE, 7);
        run.calls("leave 0 0 = -1", "fair 0 0 = 0", "write 0 2 2 = 0", "leave 0 0 = -1", "fair 0 0 = 0");
        gifts(run, 0, 2, 0, 5, 0);
        run.calls("leave 0 0 = -1", "fair 0 0 = 1", "write 0 1 4 = 0", "leave 0 0 = 2", "fair 0 0 = 0");
        run.end();
    }

    private static void snipsOfMany() {
        for (int joins = 0; joins <= 7; joins++) {
            StringBuilder told = new StringBuilder();
            int wax = 0;
            for (int j = 0; j < joins; j++) {
                told.append("join ").append(j % 2).append(' ').append(1 - j % 2).append(" wax ").append(9 - j).append(';');
                wax += 9 - j;
            }
            Runs run = new Runs("SNIPS, " + joins + " JOINS of two", head(2, 0) + P + P + P + told + "door 1;");
            run.calls("snips 0 1 = " + joins, "snipped 1 0 = " + ((1 << joins) - 1), "wax 0 1 = " + wax,
                    "snips 0 2 = 0", "snipped 0 2 = 0", "wax 2 0 = 0");
            run.calls("weld 0 1 1 9 = 1", "snips 0 1 = " + joins, "weld 0 1 0 1 = 1", "snips 0 1 = -1",
                    "snipped 0 1 = -1", "wax 0 1 = -1", "snips 0 2 = 0");
            run.calls("snip 0 1 1 = 1", "snips 0 1 = -1", "snip 0 1 0 = 1", "snips 0 1 = 0", "snipped 0 1 = 0",
                    "wax 0 1 = 0");
            run.end();
        }
    }

    private static void snipsAndActs() {
        Runs run = new Runs("SNIPS, JOINS of acts", CHAIN);
        run.calls("weld 2 1 0 1 = 1", "snips 1 2 = -1", "snips 0 2 = 1", "snipped 0 2 = 1", "wax 0 2 = 3",
                "weld 1 0 0 1 = 1", "snips 0 2 = -1", "snipped 0 2 = -1", "wax 0 2 = -1", "snips 0 1 = -1",
                "undo = 1", "snips 0 1 = 1", "snip 0 1 0 = 1", "snips 0 1 = 0", "wax 0 2 = 0", "snipped 0 2 = 0");
        run.end();
        // the way by JOIN 0 is tied by an act, too: JOIN 1 alone can be cut
        run = new Runs("SNIPS, told ones that must be cut", CHAIN);
        run.calls("weld 0 1 0 9 = 1", "snips 0 2 = 1", "snipped 0 2 = 2", "wax 0 2 = 2");
        run.end();
    }

    private static void leastCut() {
        String six = head(1, 0) + P.repeat(6);
        Runs run = new Runs("SNIPS, the least set of so few", six
                + "join 0 1 wax 9;join 1 2 wax 8;join 2 3 wax 7;join 3 4 wax 1;join 4 5 wax 6;door 1;");
        run.each("snips 0 #", 0, -2, 1, 1, 1, 1, 1, -2);
        run.each("snipped 0 #", 0, -2, 1, 1, 1, 1, 1, -2);
        run.each("wax 0 #", 0, -2, 9, 8, 7, 1, 1, -2);
        run.each("snipped # 5", 0, 1, 2, 4, 8, 16, -2, -2);
        run.end();
        // a ring: two must be cut, one on each way
        run = new Runs("SNIPS, a ring", six + "join 5 0 wax 3;join 0 1 wax 9;join 1 2 wax 8;join 2 3 wax 7;"
                + "join 3 4 wax 5;join 4 5 wax 6;door 1;");
        run.each("snips 0 #", 0, -2, 2, 2, 2, 2, 2, -2);
        run.each("snipped 0 #", 0, -2, 3, 3, 3, 3, 3, -2);
        run.each("wax 0 #", 0, -2, 12, 11, 10, 8, 8, -2);
        run.each("snipped 3 #", 0, 3, 5, 9, -2, 17, 17, -2);
        run.end();
    }

    private static void guards() {
        String star = P.repeat(6) + "join 5 0 wax 1;join 1 5 wax 1;join 5 2 wax 1;join 3 5 wax 1;join 5 4 wax 1;door 1;";
        for (int colds = 0; colds <= 5; colds++) {
            StringBuilder told = new StringBuilder();
            for (int c = 0; c < colds; c++) {
                told.append("cold ").append(4 - c).append(" at 0;");
            }
            for (int years = 1; years <= 2; years++) {
                Runs run = new Runs("GUARDS, " + colds + " COLDS in " + years + " YEARS", head(years, 0) + star + told);
                int kept = years == 1 ? 0 : (1 << colds) - 1 << 5 - colds;
                run.calls("guards 5 = " + Integer.bitCount(kept), "guarded 5 = " + kept);
                for (int p = 0; p < 5; p++) {
                    int sick = p > 4 - colds ? -1 : 0;
                    run.calls("guards " + p + " = " + sick, "guarded " + p + " = " + sick);
                }
                run.calls("guards 6 = -2", "guarded 6 = -2", "guards -1 = -2", "guarded -1 = -2");
                run.end();
            }
        }
        Runs run = new Runs("GUARDS, the least set of so few", head(5, 0) + P.repeat(4)
                + "join 0 1 wax 9;join 1 2 wax 9;join 2 3 wax 9;door 1;cold 0 at 0;");
        run.calls("guards 3 = 1", "guarded 3 = 1", "cold 3 = 3", "snip 0 1 0 = 1", "guards 3 = 0", "guarded 3 = 0",
                "guards 0 = -1", "guarded 0 = -1");
        run.end();
        // told a COLD himself in the last YEAR, or in one that is none
        run = new Runs("GUARDS, told himself", head(3, 0) + P + P + "door 1;cold 0 at 2;cold 1 at 3;");
        run.calls("guards 0 = -1", "guarded 0 = -1", "guards 1 = 0", "guarded 1 = 0");
        run.end();
        // the one to keep in may have a greater number than there are JOINS
        run = new Runs("GUARDS, the last PARTNER", head(3, 0) + P.repeat(6) + "join 5 0 wax 9;door 1;cold 5 at 0;");
        run.calls("guards 0 = 1", "guarded 0 = 32", "guards 5 = -1", "guarded 5 = -1", "guards 3 = 0");
        run.end();
    }

    private static void sneezers() {
        Runs run = new Runs("promise 41", head(4, 0) + P.repeat(4) + "join 0 1 wax 9;join 1 2 wax 9;join 2 3 wax 9;"
                + "door 1;");
        run.calls("sneezer = 0", "snip 2 3 0 = 1", "sneezer = 0", "snip 0 1 0 = 1", "sneezer = 1", "anew = 2");
        // cut in YEAR 2: from 0 or 3 it comes no further than to three
        run.calls("snip 1 2 2 = 1", "sneezer = 0", "snip 1 2 1 = 1", "sneezer = 1", "snip 1 2 0 = 1", "sneezer = 0");
        run.calls("colds 0 = 0", "colds 1 = 0");
        run.end();
        run = new Runs("promise 41, 1 YEAR", head(1, 0) + P + P + P + "join 0 1 wax 1;door 1;cold 0 at 0;cold 1 at 0;");
        run.calls("sneezer = 2", "colds 0 = 3");
        run.end();
        run = new Runs("promise 41, one", head(1, 0) + P + "door 1;");
        run.calls("sneezer = 0", "city = 0", "sneezer = -2");
        run.end();
    }
}
