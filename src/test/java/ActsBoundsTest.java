/** Promises 55 to 64: each bound of acts, seeds, the slump, counts and IMAGES, from both its sides. */
public final class ActsBoundsTest {
    private static final String THREE = "partner wide 3 worth 10 gains 1;partner wide 2 worth 5 gains 0;"
            + "partner wide 4 worth 8 gains 2;";
    /** JOINS: 0 - 1 in YEARS 0 .. 2, 1 - 2 in YEARS 0, 1. */
    private static final String CHAIN = "city years 5 law 0 slump 4 odds 3;" + THREE
            + "join 0 1 wax 3;join 1 2 wax 2;door 5;door 9;cold 0 at 0;";
    private static final String P = "partner wide 1 worth 0 gains 0;";

    private ActsBoundsTest() {
    }

    public static void main(String[] args) {
        weldsAsked();
        weldsRefused();
        snipsAsked();
        snipsRefused();
        withoutCity();
        thirtyWelds();
        thirtySnips();
        thirtyTakenBack();
        undoAndAnew();
        seeds();
        draws();
        decades();
        oneToTwenty();
        rates();
        ratesWithActs();
        counts();
        imagesAsked();
        imagesKept();
        imagesOfNoCity();
        Checks.end();
    }

    private static void weldsAsked() {
        Runs run = new Runs("promise 55, bounds", CHAIN);
        run.each("weld # 1 3 1", -1, -2, 1, -2, 1, -2, -2);
        run.each("weld 1 # 3 1", -1, -2, 1, -2, 1, -2, -2);
        run.each("weld 0 2 # 1", -1, -2, 1, 1, 1, 1, 1, -2, -2);
        run.each("weld 0 2 4 #", -1, -2, -2, 1, 1, 1, 1, 1, 1, 1, 1, 1, -2, -2);
        run.calls("count 8 = 18");
        run.end();
    }

    private static void weldsRefused() {
        Runs run = new Runs("promise 55, refused", CHAIN);
        run.calls("weld 0 2 2 2 = 1", "weld 0 0 0 1 = -2", "weld 1 1 0 1 = -2", "weld 3 3 0 1 = -2",
                "weld -1 -1 0 1 = -2");
        for (String call : new String[] {"weld # 0 0 1", "weld 0 # 0 1", "weld 0 1 # 1", "weld 0 1 0 #"}) {
            run.far(call, -2);
        }
        run.calls("count 8 = 1", "undo = 0", "undo = -5");
        run.end();
    }

    private static void snipsAsked() {
        Runs run = new Runs("promise 56, bounds", CHAIN);
        run.each("snip # 1 4", -1, -2, 0, -2, 0, -2, -2);
        run.each("snip 1 # 4", -1, -2, 0, -2, 0, -2, -2);
        run.each("snip 0 2 #", -1, -2, 0, 0, 0, 0, 0, -2, -2);
        // told of wax 3: tied in YEAR 2, not in YEAR 3
        run.calls("snip 0 1 3 = 0", "snip 0 1 2 = 1", "snip 0 1 2 = 0", "snip 1 2 1 = 1", "snip 1 2 1 = 0",
                "count 8 = 14");
        run.end();
    }

    private static void snipsRefused() {
        Runs run = new Runs("promise 56, refused", CHAIN);
        run.calls("snip 0 1 2 = 1", "snip 0 0 0 = -2", "snip 2 2 1 = -2", "snip 3 3 0 = -2", "snip 1 2 5 = -2",
                "snip 1 2 -1 = -2");
        for (String call : new String[] {"snip # 1 0", "snip 1 # 0", "snip 1 2 #"}) {
            run.far(call, -2);
        }
        run.each("holds #", 0, 3, 3, 0, 0, 0);
        run.end();
    }

    private static void withoutCity() {
        Runs run = new Runs("promises 55 to 61, no CITY");
        for (int i = 0; i < 2; i++) {
            run.calls("weld 0 1 0 1 = -2", "snip 0 1 0 = -2", "undo = -2", "anew = -2", "drawn 0 0 = -2",
                    "drawn 0 1 = -2", "luck 0 1 0 = -2", "rate 0 = -2", "rate 4 = -2", "count 2 = 0", "count 8 = 0");
            run.text(CHAIN);
            run.calls("city = 9", "undo = -5", "anew = 0", "city = 0");
        }
        run.end();
    }

    private static void thirtyWelds() {
        Runs run = new Runs("30 acts, made", CHAIN);
        for (int n = 1; n <= 30; n++) {
            run.calls("weld 0 2 3 1 = 1", "count 8 = " + n);
        }
        // one more is refused, one that is none such as well, and ahead of it
        run.calls("weld 0 2 4 1 = -5", "weld 0 1 0 9 = -5", "snip 0 1 0 = -5", "weld 0 2 5 1 = -2", "weld 0 2 4 0 = -2",
                "weld 0 2 4 10 = -2", "weld 2 2 4 1 = -2", "weld 0 3 4 1 = -2", "snip 0 1 5 = -2", "snip 1 1 0 = -2",
                "snip 3 0 0 = -2", "rate 1 = -5", "rate 21 = -2", "count 8 = 30", "tied 0 2 4 = 0", "holds 0 = 3");
        run.end();
    }

    private static void thirtySnips() {
        Runs run = new Runs("30 acts, cut", CHAIN);
        for (int n = 1; n <= 29; n++) {
            run.calls("snip 0 2 4 = 0");
        }
        run.calls("count 8 = 29", "snip 0 1 0 = 1", "count 8 = 30", "snip 1 2 0 = -5", "weld 0 2 0 1 = -5", "holds 0 = 2",
                "undo = 29", "weld 0 2 0 1 = 1", "weld 0 1 4 1 = -5", "count 8 = 30", "tied 0 2 0 = 1", "holds 0 = 3");
        run.end();
    }

    private static void thirtyTakenBack() {
        Runs run = new Runs("30 acts, taken back", CHAIN);
        for (int n = 0; n < 30; n++) {
            run.calls("weld 0 2 " + n % 5 + " 1 = 1");
        }
        for (int n = 29; n >= 0; n--) {
            run.calls("undo = " + n, "tied 0 2 4 = " + (n >= 5 ? 1 : 0));
        }
        run.calls("undo = -5", "undo = -5", "count 8 = 0", "weld 0 2 4 1 = 1", "anew = 1", "anew = 0");
        for (int n = 0; n < 30; n++) {
            run.calls("snip 0 1 1 = " + (n == 0 ? 1 : 0));
        }
        run.calls("snip 0 1 1 = -5", "anew = 30", "anew = 0", "holds 1 = 3", "snip 0 1 1 = 1");
        run.end();
    }

    private static void undoAndAnew() {
        Runs run = new Runs("promises 57, 58", CHAIN);
        run.calls("undo = -5", "anew = 0", "snip 0 1 1 = 1", "weld 0 1 1 1 = 1", "snip 0 1 2 = 0", "undo = 2",
                "tied 0 1 1 = 1", "undo = 1", "tied 0 1 1 = 0", "undo = 0", "tied 0 1 1 = 1", "tied 0 1 2 = 1",
                "undo = -5", "anew = 0", "count 8 = 0");
        // what was taken back does not come again with the next
        run.calls("snip 0 1 0 = 1", "snip 1 2 0 = 1", "undo = 1", "weld 0 2 4 1 = 1", "holds 0 = 2", "anew = 2",
                "weld 0 2 4 1 = 1", "holds 0 = 3", "count 8 = 1");
        run.end();
    }

    private static void seeds() {
        Runs run = new Runs("promises 59, 60, seeds", CHAIN);
        run.each("drawn # 1", -2, -2, -2, 1, 0);
        run.each("drawn # 1", 1999999998, falseOnes(1999999998, 2, 3), falseOnes(1999999999, 2, 3), 0, -2, -2);
        run.each("luck # 1 0", -2, -2, -2, 0, 0);
        run.each("luck # 1 0", 1999999999, 0, 0, -2, -2);
        for (String call : new String[] {"drawn # 0", "luck # 1 0"}) {
            run.calls(call.replace("#", "MIN") + " = -2", call.replace("#", "MAX") + " = -2",
                    call.replace("#", "2147483646") + " = -2");
        }
        run.each("drawn 0 #", -1, -2, 0, 1, -2, -2);
        run.far("drawn 0 #", -2);
        run.end();
    }

    /** Reckons the draws of a seed as the document tells them, one by one. */
    private static int falseOnes(long seed, int joins, int odds) {
        int falseOnes = 0;
        java.math.BigInteger x = java.math.BigInteger.valueOf(seed);
        for (int j = 0; j < joins; j++) {
            x = x.multiply(java.math.BigInteger.valueOf(1103515245)).add(java.math.BigInteger.valueOf(12345))
                    .mod(java.math.BigInteger.valueOf(2147483648L));
            if (x.longValueExact() / 65536 % 10 < odds) {
                falseOnes |= 1 << j;
            }
        }
        return falseOnes;
    }

    private static void draws() {
        Checks.section("VIII, DRAWS");
        Checks.due("a draw told by hand, seed 5: 5 7 6", falseOnes(5, 3, 6), 1);
        int[] seeds = {0, 1, 2, 65535, 65536, 1000000000, 1999999999, 2000000000};
        for (int joins = 0; joins <= 7; joins += 7) {
            for (int odds = 0; odds <= 10; odds++) {
                Runs run = new Runs("VIII, DRAWS of odds " + odds, "city years 1 law 0 slump 0 odds " + odds + ";" + P + P
                        + "join 0 1 wax 1;".repeat(joins) + "door 1;");
                for (int seed : seeds) {
                    run.calls("drawn " + seed + " 1 = " + falseOnes(seed, joins, odds), "drawn " + seed + " 0 = 0");
                }
                run.end();
            }
        }
    }

    private static void decades() {
        // 0 is OUT of -1 in the last YEAR, if he is tied to 1 in YEAR 1: by an act that is never false
        String city = "city years 4 law 0 slump 5 odds 10;partner wide 1 worth 4 gains 0;partner wide 1 worth 9 gains 0;";
        Runs run = new Runs("VIII, acts as now", city + "join 0 1 wax 9;door 1;cold 1 at 1;");
        run.calls("drawn 3 1 = 1", "drawn 3 0 = 0", "luck 3 20 0 = 0", "weld 0 1 1 1 = 1", "drawn 3 1 = 1",
                "drawn 3 0 = 1", "luck 3 20 0 = 20", "luck 3 20 1 = 0", "snip 0 1 1 = 1", "drawn 3 0 = 0", "anew = 2");
        // told and true all the time they are worth enough together
        run.calls("out 3 = 0", "count 8 = 0");
        run.end();
        // in the last YEAR, not ahead of it
        for (int years = 1; years <= 3; years++) {
            run = new Runs("VIII, the last of " + years, "city years " + years + " law 0 slump 5 odds 0;"
                    + "partner wide 1 worth 4 gains 9;" + P + "door 1;cold 0 at 1;cold 1 at 0;");
            run.calls("drawn 0 0 = " + (years > 1 ? 2 : 0), "luck 0 20 1 = " + (years > 1 ? 20 : 0), "luck 0 20 0 = 0");
            run.end();
        }
    }

    private static void oneToTwenty() {
        String city = "city years 3 law 0 slump 9 odds 6;partner wide 1 worth 30 gains 0;"
                + "partner wide 1 worth 3 gains 0;join 0 1 wax 1;door 1;cold 0 at 0;";
        Runs run = new Runs("promise 60, n", city);
        // 1 is OUT of his COLD, if the JOIN is true
        for (int n = 0; n <= 21; n++) {
            int due = 0;
            for (int i = 0; i < n; i++) {
                due += falseOnes(100 + i, 1, 6) == 0 ? 1 : 0;
            }
            run.calls("luck 100 " + n + " 1 = " + (n < 1 || n > 20 ? -2 : due));
        }
        run.calls("luck 100 -1 1 = -2", "luck 100 22 1 = -2");
        run.far("luck 100 # 1", -2);
        run.each("luck 100 20 #", -1, -2, 0, luckOf(100, 20), -2, -2);
        run.far("luck 100 1 #", -2);
        // only the seed that is given is held to its bound
        run.calls("luck 2000000000 20 1 = " + luckOf(2000000000, 20), "luck 1999999999 2 1 = " + luckOf(1999999999, 2));
        run.end();
    }

    private static int luckOf(int seed, int n) {
        int due = 0;
        for (int i = 0; i < n; i++) {
            due += falseOnes((long) seed + i, 1, 6) == 0 ? 1 : 0;
        }
        return due;
    }

    private static void rates() {
        Runs run = new Runs("promise 61, bounds", CHAIN);
        run.calls("rate -1 = -2", "rate 0 = 4", "count 2 = 0", "worth 0 1 = 11", "rate 1 = 0", "count 2 = 1",
                "worth 0 1 = 10", "rate 19 = 1", "rate 20 = 19", "worth 0 1 = -9", "count 2 = 20", "out 1 = 0",
                "out 2 = 3", "rate 21 = -2", "rate 22 = -2", "count 2 = 20");
        run.far("rate #", -2);
        run.calls("rate 20 = 20", "count 8 = 0", "undo = -5");
        run.text(CHAIN);
        run.calls("city = 9", "count 2 = 4");
        run.end();
    }

    private static void ratesWithActs() {
        Runs run = new Runs("promise 61, acts", CHAIN);
        run.calls("snip 0 2 0 = 0", "rate 5 = -5", "rate 0 = -5", "rate 20 = -5", "rate -1 = -2", "rate 21 = -2",
                "count 2 = 4", "undo = 0", "rate 5 = 4", "weld 0 1 0 1 = 1", "weld 0 1 0 1 = 1", "undo = 1", "rate 6 = -5",
                "anew = 1", "rate 6 = 5", "count 2 = 6");
        run.end();
    }

    private static void counts() {
        Runs run = new Runs("promise 62", CHAIN);
        run.each("count #", -1, -1, 5, 0, 4, 3, 3, 2, 2, 1, 0, 9, 0, 0, -1, -1);
        run.far("count #", -1);
        run.calls("weld 0 1 0 1 = 1", "row 3 0 0 = 0", "row 1 0 60 = 0", "feed 0 0 0 0 0 = 20");
        run.each("count #", -1, -1, 5, 0, 4, 3, 3, 2, 2, 1, 1, 9, 20, 2, -1);
        run.calls("row 1 0 61 = -2", "row 1 4 1 = -2", "row 0 0 -1 = -3", "count 11 = 2", "row 0 0 0 = 0", "row 2 0 0 = 0",
                "count 11 = 4", "row 2 0 1 = 0", "count 11 = 4");
        run.end();
        run = new Runs("promise 62, no CITY");
        run.each("count #", -1, -1, 0, 0, 0, 0, 0, 0, 0, 0, 0, 0, 0, 0, -1);
        run.end();
    }

    private static void imagesAsked() {
        Runs run = new Runs("promises 63, 64, bounds", CHAIN);
        run.each("back #", -1, -2, -6, -6, -6, -2, -2);
        run.each("image #", -1, -2, 0, 0, 0, -2, -2);
        run.far("image #", -2);
        run.far("back #", -2);
        run.each("back #", -1, -2, 0, 0, 0, -2, -2);
        run.end();
        for (int k = 0; k < 3; k++) {
            run = new Runs("promise 64, IMAGE " + k + " alone", CHAIN);
            run.calls("snip 0 1 0 = 1", "image " + k + " = 0", "anew = 1");
            for (int other = 0; other < 3; other++) {
                run.calls("back " + other + " = " + (other == k ? 0 : -6), "count 8 = " + (other >= k ? 1 : 0));
            }
            run.end();
        }
    }

    private static void imagesKept() {
        Runs run = new Runs("promises 63, 64, kept", CHAIN);
        run.calls("rate 5 = 4", "weld 0 2 3 1 = 1", "snip 0 1 1 = 1", "image 0 = 0", "undo = 1", "image 1 = 0", "anew = 1",
                "rate 2 = 5", "image 2 = 0");
        run.text("city years 2 law 3 slump 1 odds 1;" + P + P + P + P + "join 3 2 wax 9;door 60;cold 3 at 1;door 1;");
        run.calls("row 1 1 5 = 0");
        run.calls("city = 9", "count 0 = 2", "back 0 = 0", "count 8 = 2", "count 2 = 5", "tied 0 1 1 = 0", "tied 0 2 3 = 1",
                "count 11 = 1", "fault 0 = 0");
        // what is done behind it leaves the IMAGE as it was
        run.calls("anew = 2", "rate 0 = 5", "back 0 = 0", "count 8 = 2", "count 2 = 5", "undo = 1", "snip 1 2 0 = 1",
                "back 1 = 0", "count 8 = 1", "tied 0 1 1 = 1", "holds 0 = 3", "back 2 = 0", "count 8 = 0", "count 2 = 2",
                "worth 0 1 = 9", "undo = -5", "back 0 = 0", "undo = 1", "undo = 0", "undo = -5");
        // in place of what it had
        run.calls("image 0 = 0", "back 1 = 0", "count 8 = 1", "back 0 = 0", "count 8 = 0", "image 1 = 0", "snip 0 1 0 = 1",
                "back 1 = 0", "count 8 = 0");
        run.text("door");
        run.calls("back 2 = 0", "count 10 = 4", "city = -4", "fault 1 = 0", "back 1 = 0", "fault 0 = 1", "fault 1 = 0");
        run.end();
    }

    private static void imagesOfNoCity() {
        Runs run = new Runs("promises 63, 64, of no CITY");
        run.calls("back 1 = -6", "image 1 = 0", "back 1 = 0", "back 0 = -6", "back 2 = -6");
        run.text(CHAIN);
        run.calls("city = 9", "weld 0 1 0 1 = 1", "image 0 = 0", "back 1 = 0", "firms 0 = -2", "undo = -2", "count 9 = 0",
                "count 8 = 0", "back 0 = 0", "count 8 = 1", "firms 0 = 1");
        run.end();
    }
}
