/** Promises 42 to 54: each bound of what was seen, of LAWS, choices, odds, from both its sides. */
public final class GumBoundsTest {
    /** Widths by LAW 0: none 3 2 4; JOIN 0: {0, 1} 5; JOIN 1: {1, 2} 6; both: 9. */
    private static final String CHAIN = "city years 5 law 0 slump 4 odds 3;"
            + "partner wide 3 worth 10 gains 1;partner wide 2 worth 5 gains 0;"
            + "partner wide 4 worth 8 gains 2;"
            + "join 0 1 wax 3;join 1 2 wax 2;door 5;door 9;cold 0 at 0;";
    private static final String P = "partner wide 1 worth 0 gains 0;";
    private static final String[] SIX = {"trues", "surely", "never", "ask", "leaves", "laws"};

    private GumBoundsTest() {
    }

    public static void main(String[] args) {
        slotsAsked();
        withoutCity();
        numbersSeen();
        numbersOfEachWidth();
        threeEach();
        manySeen();
        noneAreLeft();
        fewerThanNow();
        sevenJoins();
        lawsAsked();
        lawsAboutTheWidth();
        pairsOfTheGame();
        choices();
        lastYear();
        shavesOfThree();
        waxedBesides();
        chancesAsked();
        oddsAboutTheirEnds();
        Checks.end();
    }

    private static String head(int years, int law, int slump, int odds) {
        return "city years " + years + " law " + law + " slump " + slump + " odds " + odds + ";";
    }

    private static String partner(int wide, int worth, int gains) {
        return "partner wide " + wide + " worth " + worth + " gains " + gains + ";";
    }

    private static void seen(Runs run, int slot, int width, long... numbers) {
        run.calls("row " + slot + " " + width + " " + numbers.length + " = 0");
        for (int i = 0; i < numbers.length; i++) {
            run.calls("write " + slot + " " + i + " " + numbers[i] + " = 0");
        }
    }

    /** What all six calls of a SLOT answer. */
    private static void six(Runs run, int slot, int... due) {
        for (int i = 0; i < SIX.length; i++) {
            run.calls(SIX[i] + " " + slot + " = " + due[i % due.length]);
        }
    }

    private static void slotsAsked() {
        Runs run = new Runs("GUM, SLOTS", CHAIN);
        for (int slot = 0; slot < 4; slot++) {
            six(run, slot, -6);
        }
        for (int slot : new int[] {-1, 4, 64, -2, Integer.MIN_VALUE, Integer.MAX_VALUE}) {
            six(run, slot, -2);
        }
        seen(run, 0, 0, 1, 0, 0);
        run.calls("row 3 3 0 = 0");
        six(run, 0, 2, 2, 0, 0, 1, 13);
        six(run, 1, -6);
        six(run, 2, -6);
        six(run, 3, 4, 0, 0, 10, 2, 15);
        six(run, 4, -2);
        run.end();
    }

    private static void withoutCity() {
        Runs run = new Runs("GUM, no CITY");
        run.calls("row 0 0 0 = 0", "row 1 0 3 = 0");
        for (int i = 0; i < 2; i++) {
            for (int slot = -1; slot < 5; slot++) {
                six(run, slot, -2);
            }
            run.calls("by 0 0 = -2", "rests 0 1 = -2", "gets 0 1 0 0 = -10000", "when 0 1 = -2", "chance 0 1 0 = -2",
                    "through 0 0 0 = -2", "mean 0 = -2", "mean 1 = -2");
            run.text(CHAIN);
            run.calls("city = 9", "trues 0 = 4", "city = 0");
        }
        run.end();
    }

    private static void numbersSeen() {
        Runs run = new Runs("GUM, a number is none such", CHAIN);
        int[] trues = {3, 2, 2};
        for (int p = -1; p <= 3; p++) {
            for (int d = -1; d <= 2; d++) {
                seen(run, 1, 0, p, d, 1);
                boolean such = p >= 0 && p < 3 && d >= 0 && d < 2;
                int due = d == 1 ? 4 : such ? trues[p] : 0;
                run.calls("trues 1 = " + (such ? due : -2), "laws 1 = " + (such ? d == 1 ? 15 : 2 : -2));
            }
        }
        for (int through = -1; through <= 2; through++) {
            seen(run, 1, 0, 0, 0, through);
            six(run, 1, through == 0 ? 1 : through == 1 ? 3 : -2, through == 0 ? 3 : through == 1 ? 0 : -2,
                    through == 0 || through == 1 ? 0 : -2, through == 0 ? -1 : through == 1 ? 10 : -2,
                    through == 0 ? 1 : through == 1 ? 2 : -2, through == 0 ? 13 : through == 1 ? 2 : -2);
        }
        run.end();
        // the last of several is none such
        run = new Runs("GUM, the last number is none such", CHAIN);
        for (int at = 0; at < 6; at++) {
            long[] numbers = {0, 0, 1, 0, 0, 1};
            numbers[at] = 9;
            seen(run, 2, 1, numbers);
            six(run, 2, -2);
        }
        seen(run, 2, 1, 0, 0, 1, 0, 0, 1);
        run.calls("trues 2 = 3");
        run.end();
    }

    private static void numbersOfEachWidth() {
        Runs run = new Runs("GUM, numbers of each WIDTH", CHAIN);
        for (int width = 0; width < 4; width++) {
            long beyond = width == 3 ? 0 : 1L << (8 << width);
            seen(run, width, width, 1, beyond, 1 - beyond);
            run.calls("trues " + width + " = 2");
        }
        seen(run, 0, 3, 1L << 32, 0, 1);
        six(run, 0, -2);
        seen(run, 0, 3, 0, 1L << 32, 1);
        six(run, 0, -2);
        seen(run, 0, 3, 0, 0, (1L << 32) + 1);
        six(run, 0, -2);
        run.calls("write 0 2 MIN = 0", "trues 0 = -2", "write 0 2 MAX = 0", "trues 0 = -2", "write 0 2 1 = 0",
                "trues 0 = 3", "write 0 0 MIN = 0", "trues 0 = -2");
        run.end();
    }

    private static void threeEach() {
        Runs run = new Runs("GUM, three each", CHAIN);
        for (int n : new int[] {0, 1, 2, 3, 4, 5, 6, 57, 58, 59, 60}) {
            run.calls("row 0 1 " + n + " = 0");
            // PARTNER 0 did not go through DOOR 0: both JOINS are true
            run.calls("trues 0 = " + (n % 3 != 0 ? -2 : n == 0 ? 4 : 1), "surely 0 = " + (n % 3 != 0 ? -2 : n == 0 ? 0 : 3),
                    "never 0 = " + (n % 3 != 0 ? -2 : 0), "ask 0 = " + (n % 3 != 0 ? -2 : n == 0 ? 10 : -1),
                    "leaves 0 = " + (n % 3 != 0 ? -2 : n == 0 ? 2 : 1), "laws 0 = " + (n % 3 != 0 ? -2 : n == 0 ? 15 : 13));
        }
        run.end();
    }

    private static void manySeen() {
        Runs run = new Runs("GUM, sixty numbers", CHAIN);
        run.calls("row 0 0 60 = 0");
        for (int i = 2; i < 60; i += 3) {
            run.calls("write 0 " + i + " 1 = 0");
        }
        run.calls("trues 0 = 3", "write 0 59 0 = 0", "trues 0 = 0", "surely 0 = -1", "write 0 57 2 = 0", "trues 0 = 1",
                "surely 0 = 2", "never 0 = 1");
        run.end();
    }

    private static void noneAreLeft() {
        Runs run = new Runs("GUM, no set is left", CHAIN);
        seen(run, 0, 0, 0, 1, 0);
        six(run, 0, 0, -1, -1, -1, 0, 0);
        seen(run, 0, 0, 0, 0, 1, 0, 0, 0);
        six(run, 0, 0, -1, -1, -1, 0, 0);
        run.end();
        run = new Runs("GUM, no JOINS are told", head(1, 0, 0, 5) + P + P + "door 1;door 2;");
        run.calls("row 0 0 0 = 0");
        six(run, 0, 1, 0, 0, -1, 1, 15);
        seen(run, 0, 0, 0, 0, 0);
        six(run, 0, 0, -1, -1, -1, 0, 4);
        run.end();
        run = new Runs("GUM, no PARTNERS, no DOORS", head(1, 0, 0, 5));
        run.calls("row 0 0 0 = 0");
        six(run, 0, 1, 0, 0, -1, 1, 15);
        seen(run, 0, 0, 0, 0, 0);
        six(run, 0, -2);
        run.end();
    }

    private static void fewerThanNow() {
        // one DOOR that tells, and one that does not: of two sets each answer leaves one
        Runs run = new Runs("ASK, if fewer than now", head(1, 0, 0, 5) + P + P + "join 0 1 wax 1;door 2;door 1;");
        run.calls("row 0 0 0 = 0");
        six(run, 0, 2, 0, 0, 1, 1, 15);
        seen(run, 0, 0, 1, 1, 1);
        six(run, 0, 1, 0, 1, -1, 1, 10);
        seen(run, 0, 0, 1, 1, 0);
        six(run, 0, 1, 1, 0, -1, 1, 5);
        run.end();
        run = new Runs("ASK, no DOOR tells", head(1, 0, 0, 5) + P + P + "join 0 1 wax 1;door 2;door 60;");
        run.calls("row 0 0 0 = 0");
        run.calls("trues 0 = 2", "ask 0 = -1", "leaves 0 = 2");
        run.end();
        run = new Runs("ASK, none to ask of", head(1, 0, 0, 5) + P + P + "join 0 1 wax 1;");
        run.calls("row 0 0 0 = 0");
        run.calls("trues 0 = 2", "ask 0 = -1", "leaves 0 = 2");
        run.end();
        // the last PARTNER and the last DOOR alone
        run = new Runs("ASK, ten times and", head(1, 1, 0, 5) + partner(9, 0, 0) + partner(8, 0, 0) + P.repeat(3)
                + partner(2, 0, 0) + "join 5 0 wax 1;door 9;door 1;door 9;door 1;door 8;");
        run.calls("row 0 0 0 = 0");
        run.calls("trues 0 = 2", "ask 0 = 54", "leaves 0 = 1");
        run.end();
        // the first DOOR of the second PARTNER: with 0 nobody is joined
        run = new Runs("ASK, ten times one", head(1, 0, 0, 5) + P + P + P + "join 1 2 wax 1;door 1;door 60;door 2;door 59;"
                + "door 3;");
        run.calls("row 0 0 0 = 0");
        run.calls("trues 0 = 2", "ask 0 = 10", "leaves 0 = 1");
        run.end();
    }

    private static void sevenJoins() {
        Runs run = new Runs("GUM, seven JOINS", head(1, 0, 0, 5) + P + P + P + "join 0 1 wax 9;join 0 1 wax 1;"
                + "join 0 1 wax 1;join 1 0 wax 1;join 0 1 wax 1;join 0 1 wax 1;join 1 2 wax 1;door 2;door 1;door 3;");
        run.calls("row 0 0 0 = 0");
        // 126 of 128 have a JOIN of 0 and 1; 2 goes through DOOR 1 alone in 64, all go through DOOR 0 but in 63
        six(run, 0, 128, 0, 0, 21, 64, 15);
        seen(run, 0, 0, 2, 1, 0);
        six(run, 0, 64, 64, 0, 0, 63, 5);
        seen(run, 0, 0, 2, 1, 0, 0, 1, 1);
        six(run, 0, 1, 64, 63, -1, 1, 0);
        run.end();
    }

    private static void lawsAsked() {
        Runs run = new Runs("promise 48", CHAIN);
        run.each("by # 1", -1, -2, 1, 1, -2, -2);
        run.each("by # 0", -1, -2, 0, 1, -2, -2);
        run.each("by 1 #", -1, -2, 1, 1, 1, 1, -2, -2);
        run.far("by # 0", -2);
        run.far("by 0 #", -2);
        run.calls("snip 0 1 0 = 1");
        run.each("by 0 #", -1, -2, 1, 2, 2, 2, -2);
        run.calls("weld 0 2 1 9 = 1", "by 0 1 = 2", "by 1 0 = 2", "weld 0 2 0 1 = 1", "by 1 0 = 1", "by 1 1 = 1");
        run.end();
        run = new Runs("promise 48, nobody", head(1, 3, 0, 0) + "door 1;");
        run.each("by 0 #", -1, -2, 0, 0, 0, 0, -2);
        run.end();
    }

    private static void lawsAboutTheWidth() {
        // by LAW 0 .. 3: 7, 4, 4, 6
        for (int door = 3; door <= 8; door++) {
            Runs run = new Runs("promise 47, a DOOR of " + door, head(1, 2, 0, 5) + partner(3, 0, 0) + partner(4, 0, 0)
                    + "join 0 1 wax 1;door " + door + ";");
            int through = (door >= 7 ? 1 : 0) + (door >= 4 ? 6 : 0) + (door >= 6 ? 8 : 0);
            seen(run, 0, 0, 0, 0, 1);
            run.calls("laws 0 = " + through, "write 0 2 0 = 0", "laws 0 = " + (15 - through));
            // all told JOINS true, acts aside
            run.calls("snip 0 1 0 = 1", "laws 0 = " + (15 - through), "weld 0 1 0 9 = 1", "weld 0 1 0 9 = 1",
                    "laws 0 = " + (15 - through));
            run.end();
        }
    }

    private static void pairsOfTheGame() {
        Runs run = new Runs("GAME, two PARTNERS", CHAIN);
        run.each("rests # 1", -1, -2, 4, -2, 4, -2, -2);
        run.each("rests 1 #", -1, -2, 2, -2, 2, -2, -2);
        run.each("gets # 1 0 0", -1, -10000, 10, -10000, 12, -10000);
        run.each("gets 1 # 0 0", -1, -10000, 1, -10000, 1, -10000);
        run.each("when # 1", -1, -2, -1, -2, -1, -2);
        run.each("when 1 #", -1, -2, -1, -2, -1, -2);
        run.each("chance # 1 0", -1, -2, 7, -2, 7, -2);
        run.each("chance 1 # 1", -1, -2, 10, -2, 10, -2);
        run.calls("rests 0 0 = -2", "rests 3 3 = -2", "gets 2 2 0 0 = -10000", "when 0 0 = -2", "chance 2 2 0 = -2");
        for (String call : new String[] {"rests # 0", "rests 0 #", "when # 0", "when 0 #", "chance # 0 0",
            "chance 0 # 0", "chance 0 1 #"}) {
            run.far(call, -2);
        }
        run.far("gets # 0 0 0", -10000);
        run.far("gets 0 # 0 0", -10000);
        run.end();
    }

    private static void choices() {
        Runs run = new Runs("promise 50, choices", CHAIN);
        run.each("gets 0 1 # 0", -1, -10000, 10, 7, -10000, -10000);
        run.each("gets 1 0 0 #", -1, -10000, 1, 5, -10000, -10000);
        run.each("gets 1 0 # 1", -1, -10000, 5, 2, -10000);
        run.far("gets 0 1 # 0", -10000);
        run.far("gets 0 1 0 #", -10000);
        run.calls("gets 0 0 2 2 = -10000", "gets 0 1 2 2 = -10000");
        run.end();
    }

    private static void lastYear() {
        // YEAR 0 is the last YEAR: nobody gains or loses ahead of its beginning
        Runs run = new Runs("GAME, 1 YEAR", head(1, 0, 9, 5) + partner(1, 4, 9) + partner(1, 0, 9)
                + "join 0 1 wax 9;door 1;cold 0 at 0;cold 1 at 0;");
        run.calls("gets 0 1 0 0 = 4", "gets 0 1 1 0 = 1", "gets 1 0 1 0 = -3", "gets 1 0 0 1 = 0", "rests 0 1 = 1",
                "when 0 1 = -1");
        run.end();
        run = new Runs("GAME, 2 YEARS", head(2, 0, 9, 5) + partner(1, 4, 9) + partner(1, 0, 1)
                + "join 0 1 wax 9;door 1;cold 0 at 0;cold 1 at 1;");
        run.calls("gets 0 1 0 0 = 4", "gets 1 0 0 0 = 1", "gets 1 0 1 1 = -2", "gets 0 1 1 1 = 1", "rests 0 1 = 1");
        run.end();
    }

    private static void shavesOfThree() {
        // 1 loses the slump, unless one of them shaves: 2 is less than a shave, 3 as much, 4 more
        int[] rests = {1, 5, 4};
        for (int slump = 2; slump <= 4; slump++) {
            Runs run = new Runs("REST, a slump of " + slump, head(3, 0, slump, 5) + partner(1, 9, 0) + partner(1, 9, 0)
                    + "join 0 1 wax 9;door 1;cold 0 at 0;");
            run.calls("gets 1 0 0 0 = " + (9 - slump), "gets 1 0 1 0 = 6", "gets 1 0 0 1 = 9", "gets 1 0 1 1 = 6",
                    "gets 0 1 0 0 = " + (9 - slump), "gets 0 1 1 1 = " + (6 - slump));
            run.calls("rests 0 1 = " + rests[slump - 2], "rests 1 0 = " + new int[] {1, 3, 2}[slump - 2]);
            // none are made of one who shaves any more, and those of YEAR 0 are cut
            run.calls("weld 0 1 0 9 = 1", "weld 1 0 1 9 = 1", "gets 1 0 1 0 = 6", "gets 1 0 0 1 = 9",
                    "gets 0 1 1 0 = " + (6 - slump), "tied 0 1 0 = 1");
            run.end();
        }
        // joined to both of two who lose the more the less they shave: both shave, or one
        Runs run = new Runs("REST, both", head(3, 0, 9, 5) + partner(1, 40, 0) + partner(1, 40, 0) + partner(1, 40, 0)
                + "join 2 0 wax 9;join 2 1 wax 9;door 1;cold 2 at 0;");
        run.calls("rests 0 1 = 8", "gets 0 1 0 0 = 31", "gets 0 1 1 0 = 37", "gets 0 1 0 1 = 31", "gets 0 1 1 1 = 37",
                "rests 0 2 = 2", "rests 2 0 = 4");
        run.end();
        // 0 is kept by what 3 is worth till he gains enough; 3 has less by him than a shave costs
        run = new Runs("REST, one who is kept", head(6, 0, 20, 0) + partner(1, 0, 9) + partner(1, 0, 0) + partner(1, 5, 0)
                + partner(1, 99, 0) + "join 0 3 wax 9;door 1;cold 0 at 0;");
        run.calls("gets 0 2 0 0 = 25", "gets 0 2 1 0 = -14", "gets 2 0 0 0 = 5", "gets 2 0 1 0 = 2", "rests 2 0 = 1",
                "rests 0 2 = 1", "gets 0 3 0 1 = -11", "gets 0 3 1 1 = -14", "gets 3 0 0 0 = 79", "gets 3 0 1 0 = 96",
                "gets 3 0 0 1 = 99", "gets 3 0 1 1 = 96", "rests 0 3 = 4", "rests 3 0 = 2");
        run.end();
    }

    private static void waxedBesides() {
        // 0 has -1 from YEAR 1 on, or is saved by 1; 1 has no COLD if joined behind YEAR 0
        String city = head(4, 0, 6, 5) + partner(1, 5, 0);
        for (int worth = 0; worth <= 2; worth++) {
            Runs run = new Runs("promise 51, saved by " + worth, city + partner(1, worth, 0) + "door 1;cold 0 at 0;");
            run.calls("worth 0 3 = -1", "when 0 1 = -1", "when 1 0 = -1", "count 8 = 0");
            run.end();
        }
        // who is not OUT gains: 1 in YEAR 1, 2 and 3; saved from YEAR 1 on by 1 and more
        for (int worth = 0; worth <= 2; worth++) {
            Runs run = new Runs("promise 51, gains, saved by " + worth, head(4, 0, 6, 5) + partner(1, 4, 1)
                    + partner(1, worth, 0) + "door 1;cold 0 at 0;");
            int when = worth == 0 ? -1 : 1;
            run.calls("out 1 = 1", "worth 0 3 = -1", "when 0 1 = " + when, "when 1 0 = " + when);
            for (int i = 0; i < 30; i++) {
                run.calls("snip 0 1 3 = 0");
            }
            run.calls("weld 0 1 1 9 = -5", "when 0 1 = " + when, "count 8 = 30", "snip 0 1 3 = -5", "out 1 = 1");
            run.end();
        }
        // the last YEAR is too late, the one ahead of it is not
        Runs run = new Runs("promise 51, 2 YEARS", head(2, 0, 6, 5) + partner(1, 4, 1) + partner(1, 9, 0)
                + "door 1;cold 0 at 0;");
        run.calls("worth 0 1 = -1", "when 0 1 = -1");
        run.end();
    }

    private static void chancesAsked() {
        Runs run = new Runs("CHANCE, what", CHAIN);
        run.each("chance 0 1 #", -1, -2, 7, 10, -2, -2);
        run.each("through 0 0 #", -1, -2, 51, 100, -2, -2);
        run.each("mean #", -1, -2, 8, 5, -2, -2);
        run.each("through # 0 0", -1, -2, 51, 3, 3, -2, -2);
        run.each("through 2 # 1", -1, -2, 10, 1, -2, -2);
        for (String call : new String[] {"through # 0 0", "through 0 # 0", "through 0 0 #", "mean #"}) {
            run.far(call, -2);
        }
        // acts as now: one of YEAR 1 is none in YEAR 0
        run.calls("weld 0 1 1 9 = 1", "chance 0 1 0 = 7", "weld 0 1 0 1 = 1", "chance 0 1 0 = 1", "chance 0 1 1 = 1",
                "snip 1 0 0 = 1", "chance 0 1 0 = 0", "chance 0 1 1 = 1", "through 0 0 0 = 1", "through 0 0 1 = 1",
                "mean 0 = 23", "mean 1 = 10");
        run.end();
        run = new Runs("CHANCE, nobody", head(1, 0, 0, 3) + "door 1;");
        run.calls("mean 0 = 0", "mean 1 = 1", "mean 2 = -2", "chance 0 1 0 = -2", "through 0 0 0 = -2");
        run.end();
    }

    private static void oddsAboutTheirEnds() {
        // of two JOINS of 0 and 1: 1 - (odds / 10) squared
        int[] above = {1, 99, 24, 91, 21, 3, 16, 51, 9, 19, 0};
        int[] below = {1, 100, 25, 100, 25, 4, 25, 100, 25, 100, 1};
        for (int odds = 0; odds <= 10; odds++) {
            Runs run = new Runs("CHANCE of odds " + odds, head(2, 0, 0, odds) + P + P
                    + "join 0 1 wax 1;join 1 0 wax 1;door 1;door 2;");
            run.calls("chance 0 1 0 = " + above[odds], "chance 0 1 1 = " + below[odds],
                    "through 1 0 0 = " + (below[odds] - above[odds]), "through 1 0 1 = " + below[odds],
                    "through 0 1 0 = 1", "through 0 1 1 = 1",
                    "mean 0 = " + (2 * below[odds] - above[odds]), "mean 1 = " + below[odds]);
            run.calls("drawn 5 1 = " + (odds > 7 ? 3 : odds > 5 ? 1 : 0));
            run.end();
        }
    }
}
