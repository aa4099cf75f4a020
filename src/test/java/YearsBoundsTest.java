/** Promises 9 to 28: each bound of YEARS, PARTNERS, wax, WORTH and DOORS, from both its sides. */
public final class YearsBoundsTest {
    /**
     * COLDS: YEAR 0 {0}, 1 {1}, 2 {2}. WORTH: 0: 10 7 8 9 10; 1: 5 5 1 1 1; 2: 8 10 12 10 12.
     * JOINS: 0 - 1 in YEARS 0 .. 2, 1 - 2 in YEARS 0, 1.
     */
    private static final String CHAIN = "city years 5 law 0 slump 4 odds 3;"
            + "partner wide 3 worth 10 gains 1;partner wide 2 worth 5 gains 0;"
            + "partner wide 4 worth 8 gains 2;"
            + "join 0 1 wax 3;join 1 2 wax 2;door 5;door 9;cold 0 at 0;";
    private static final String P = "partner wide 1 worth 0 gains 0;";

    private YearsBoundsTest() {
    }

    public static void main(String[] args) {
        yearsAsked();
        partnersAsked();
        pairsAsked();
        withoutCity();
        fewestAndMostYears();
        waxTold();
        waxMade();
        cuts();
        worthAboutZero();
        worthTogetherAboutZero();
        outStays();
        coldsAboutTheYears();
        coldsOnce();
        widthsAboutOne();
        doorsAboutTheWidth();
        hairsOfSix();
        nobodyAndOne();
        allOut();
        firstOfSeveral();
        behindTheLastYear();
        sixPartners();
        Checks.end();
    }

    private static String head(int years, int law, int slump) {
        return "city years " + years + " law " + law + " slump " + slump + " odds 5;";
    }

    private static String partner(int wide, int worth, int gains) {
        return "partner wide " + wide + " worth " + worth + " gains " + gains + ";";
    }

    private static void yearsAsked() {
        Runs run = new Runs("promises 9 to 28, YEARS", CHAIN);
        run.each("holds #", -1, -2, 3, 3, 1, 0, 0, -2, -2);
        run.each("tied 0 1 #", -1, -2, 1, 1, 1, 0, 0, -2, -2);
        run.each("firm 0 #", -1, -2, 7, 7, 3, 1, 1, -2, -2);
        run.each("firms #", -1, -2, 1, 1, 2, 3, 3, -2, -2);
        run.each("wide 1 #", -1, -2, 9, 9, 5, 2, 2, -2, -2);
        run.each("passes 1 #", -1, -2, 2, 2, 3, 3, 3, -2, -2);
        run.each("largest #", -1, -2, 3, 3, 2, 1, 1, -2, -2);
        run.each("hairs 0 2 #", -1, -2, 2, 2, -1, -1, -1, -2, -2);
        run.each("hairs 1 1 #", -1, -2, 0, 0, 0, 0, 0, -2, -2);
        run.each("colds #", -1, -2, 1, 2, 4, 0, 0, -2, -2);
        run.each("worth 0 #", -1, -10000, 10, 7, 8, 9, 10, -10000, -10000);
        run.each("funds 1 #", -1, -10000, 23, 22, 9, 1, 1, -10000, -10000);
        run.each("out #", -1, -2, 0, 0, 0, 0, 0, -2, -2);
        run.each("richest #", -1, -2, 0, 0, 2, 2, 2, -2, -2);
        run.each("singles #", -1, -2, 0, 0, 4, 7, 7, -2, -2);
        run.each("total #", -1, -10000, 23, 22, 21, 20, 23, -10000, -10000);
        for (String call : new String[] {"holds #", "tied 0 1 #", "firm 0 #", "firms #", "wide 0 #", "passes 0 #",
            "largest #", "hairs 0 1 #", "colds #", "out #", "richest #", "singles #"}) {
            run.far(call, -2);
        }
        run.end();
        run = new Runs("promises 19, 20, 28, YEARS far away", CHAIN);
        for (String call : new String[] {"worth 0 #", "funds 0 #", "total #"}) {
            run.far(call, -10000);
        }
        run.end();
    }

    private static void partnersAsked() {
        Runs run = new Runs("promises 11 to 24, PARTNERS", CHAIN);
        run.each("firm # 2", -1, -2, 3, 3, 4, -2, -2);
        run.each("wide # 2", -1, -2, 5, 5, 4, -2, -2);
        run.each("passes # 0", -1, -2, 2, 2, 2, -2, -2);
        run.each("cold #", -1, -2, 0, 1, 2, -2, -2);
        run.each("worth # 1", -1, -10000, 7, 5, 10, -10000, -10000);
        run.each("funds # 2", -1, -10000, 9, 9, 12, -10000, -10000);
        run.each("fails #", -1, -2, -1, -1, -1, -2, -2);
        run.each("parts #", -1, -2, 3, 2, -2, -2);
        for (String call : new String[] {"firm # 0", "wide # 0", "passes # 0", "cold #", "fails #", "parts #"}) {
            run.far(call, -2);
        }
        run.far("worth # 0", -10000);
        run.far("funds # 0", -10000);
        run.end();
    }

    private static void pairsAsked() {
        Runs run = new Runs("promises 10, 16, 26, two PARTNERS", CHAIN);
        run.each("tied # 1 1", -1, -2, 1, -2, 1, -2, -2);
        run.each("tied 1 # 1", -1, -2, 1, -2, 1, -2, -2);
        run.each("hairs # 0 1", -1, -2, 0, 1, 2, -2, -2);
        run.each("hairs 2 # 1", -1, -2, 2, 1, 0, -2, -2);
        run.each("apart # 1", -1, -2, 3, -2, 2, -2, -2);
        run.each("apart 1 #", -1, -2, 3, -2, 2, -2, -2);
        run.calls("apart 0 0 = -2", "apart 2 2 = -2", "apart 3 3 = -2", "hairs 3 3 0 = -2", "hairs -1 -1 0 = -2",
                "tied 0 0 0 = -2", "tied 2 2 4 = -2", "tied 3 3 0 = -2", "tied 0 0 5 = -2");
        for (String call : new String[] {"tied # 0 0", "tied 0 # 0", "hairs # 0 0", "hairs 0 # 0", "apart # 0",
            "apart 0 #"}) {
            run.far(call, -2);
        }
        run.end();
    }

    private static void withoutCity() {
        String[] calls = {"holds 0", "tied 0 1 0", "firm 0 0", "firms 0", "wide 0 0", "passes 0 0", "largest 0",
            "hairs 0 0 0", "hairs 0 1 0", "colds 0", "cold 0", "out 0", "fails 0", "richest 0", "parts 0", "merger",
            "apart 0 1", "singles 0"};
        Runs run = new Runs("promises 9 to 28, no CITY");
        for (int i = 0; i < 2; i++) {
            for (String call : calls) {
                run.calls(call + " = -2");
            }
            run.calls("worth 0 0 = -10000", "funds 0 0 = -10000", "total 0 = -10000");
            // what was a CITY is none any more behind an empty TAPE
            run.text(CHAIN);
            run.calls("city = 9", "firms 0 = 1", "city = 0");
        }
        run.end();
    }

    private static void fewestAndMostYears() {
        Runs run = new Runs("1 YEAR", head(1, 0, 20) + partner(1, 3, 9) + partner(1, 4, 9) + "join 0 1 wax 1;"
                + "door 2;cold 0 at 0;");
        run.each("holds #", -1, -2, 1, -2);
        run.each("worth 0 #", -1, -10000, 3, -10000);
        run.each("colds #", -1, -2, 1, -2);
        run.each("out #", -1, -2, 0, -2);
        run.calls("fails 0 = -1", "cold 1 = -1", "parts 0 = -1", "merger = 0", "apart 0 1 = -1", "firms 0 = 1",
                "firms 1 = -2", "total 0 = 7", "total 1 = -10000");
        run.end();
        run = new Runs("12 YEARS", head(12, 0, 20) + partner(1, 99, 9) + partner(1, 20, 0)
                + "join 0 1 wax 9;door 2;cold 1 at 11;");
        run.each("holds #", -1, -2, 1, 1, 1, 1, 1, 1, 1, 1, 1, 0, 0, 0, -2, -2);
        run.each("worth 0 #", 0, 99, 108, 117, 126, 135, 144, 153, 162, 171, 180, 189, 198, -10000);
        run.calls("colds 10 = 0", "colds 11 = 2", "colds 12 = -2", "cold 1 = 11", "worth 1 11 = 20", "total 11 = 218",
                "merger = 0", "apart 0 1 = 9", "parts 0 = 9", "largest 8 = 2", "largest 9 = 1");
        run.end();
    }

    private static void waxTold() {
        for (int wax = 1; wax <= 9; wax++) {
            Runs run = new Runs("II, told of wax " + wax, head(5, 0, 0) + P + P + "join 0 1 wax " + wax + ";door 1;");
            for (int y = 0; y < 5; y++) {
                int holds = y < wax ? 1 : 0;
                run.calls("holds " + y + " = " + holds, "tied 1 0 " + y + " = " + holds,
                        "firms " + y + " = " + (2 - holds), "hairs 0 1 " + y + " = " + (holds == 1 ? 1 : -1));
            }
            int parts = wax < 5 ? wax : -1;
            run.calls("parts 0 = " + parts, "apart 0 1 = " + parts, "join 0 2 = " + wax);
            run.end();
        }
    }

    private static void waxMade() {
        int[][] made = {{0, 1}, {0, 9}, {2, 1}, {2, 3}, {2, 9}, {3, 9}, {10, 1}, {10, 2}, {11, 1}, {11, 9}};
        for (int[] m : made) {
            Runs run = new Runs("II, made in " + m[0] + " of wax " + m[1], head(12, 0, 0) + P + P + P + "door 1;");
            run.calls("weld 2 0 " + m[0] + " " + m[1] + " = 1");
            for (int y = 0; y < 12; y++) {
                int holds = y >= m[0] && y <= m[0] + m[1] - 1 ? 1 : 0;
                run.calls("tied 0 2 " + y + " = " + holds, "tied 2 0 " + y + " = " + holds, "holds " + y + " = 0",
                        "firm 0 " + y + " = " + (holds == 1 ? 5 : 1), "firms " + y + " = " + (3 - holds));
            }
            run.end();
        }
    }

    private static void cuts() {
        String city = head(5, 0, 0) + P + P + P + "join 0 1 wax 9;join 1 0 wax 2;join 1 2 wax 9;door 1;";
        for (int year = 0; year < 5; year++) {
            Runs run = new Runs("II, cut in " + year, city);
            run.calls("snip 1 0 " + year + " = 1");
            for (int y = 0; y < 5; y++) {
                run.calls("tied 0 1 " + y + " = " + (y < year ? 1 : 0), "tied 1 2 " + y + " = 1",
                        "holds " + y + " = " + (4 + (y < year ? y < 2 ? 3 : 1 : 0)));
            }
            run.calls("parts 0 = " + year, "parts 1 = " + Math.min(2, year), "parts 2 = -1", "apart 0 2 = " + year);
            run.end();
        }
        Runs run = new Runs("II, made and cut in one YEAR", city);
        run.calls("snip 0 1 2 = 1", "weld 0 1 2 2 = 1", "snip 0 1 4 = 0");
        run.each("tied 0 1 #", 0, 1, 1, 1, 1, 0);
        run.calls("weld 1 0 2 9 = 1", "tied 0 1 4 = 0", "snip 0 1 2 = 1");
        run.each("tied 0 1 #", 0, 1, 1, 0, 0, 0);
        run.calls("weld 0 1 3 1 = 1", "snip 0 1 1 = 1");
        run.each("tied 0 1 #", 0, 1, 0, 0, 1, 0);
        run.each("holds #", 0, 7, 4, 4, 4, 4);
        run.end();
    }

    private static void worthAboutZero() {
        for (int worth = 4; worth <= 6; worth++) {
            Runs run = new Runs("OUT, alone of " + worth, head(4, 0, 5) + partner(1, worth, 0) + P + "door 1;"
                    + "cold 0 at 0;");
            int out = worth < 5 ? 1 : 0;
            run.each("out #", 0, 0, out, out, out);
            run.each("worth 0 #", 0, worth, worth - 5, worth - 5, worth - 5);
            run.each("firm 0 #", 0, 1, 1 - out, 1 - out, 1 - out);
            run.each("funds 0 #", 0, worth, out == 1 ? -10000 : worth - 5);
            run.each("wide 0 #", 0, 1, 1 - out);
            run.each("passes 0 #", 0, 1, 1 - out);
            run.calls("fails 0 = " + (out == 1 ? 1 : -1), "fails 1 = -1", "funds 1 1 = 0", "out 0 = 0");
            run.end();
        }
    }

    private static void worthTogetherAboutZero() {
        for (int worth = 2; worth <= 4; worth++) {
            // 0 has -3 from YEAR 1 on, 1 as told; they are tied in YEAR 1 alone
            Runs run = new Runs("OUT, -3 and " + worth, head(4, 0, 5) + partner(1, 2, 0) + partner(1, worth, 0)
                    + P + "door 2;cold 0 at 0;");
            boolean both = worth < 3;
            run.calls("weld 0 1 1 1 = " + (both ? 0 : 1), "count 8 = 1");
            run.each("tied 0 1 #", 0, 0, both ? 0 : 1, 0, 0);
            run.each("out #", 0, 0, both ? 3 : 0, both ? 3 : 1, both ? 3 : 1);
            run.each("fails #", 0, both ? 1 : 2, both ? 1 : -1, -1, -2);
            run.each("worth 1 #", 0, worth, worth, worth, worth);
            run.each("worth 0 #", 0, 2, -3, -3, -3);
            run.each("funds 0 #", 0, 2, both ? -10000 : worth - 3, -10000, -10000);
            run.each("funds 1 #", 0, worth, both ? -10000 : worth - 3, both ? -10000 : worth);
            run.each("total #", 0, worth + 2, both ? 0 : worth - 3, both ? 0 : worth);
            run.each("firms #", 0, 3, both ? 1 : 2, both ? 1 : 2);
            run.each("singles #", 0, 7, 4, both ? 4 : 6);
            run.each("richest #", 0, worth > 2 ? 1 : 0, both ? 2 : 0, both ? 2 : 1);
            run.end();
        }
    }

    private static void outStays() {
        Runs run = new Runs("OUT stays as he was", head(5, 3, 20) + partner(2, 0, 3) + partner(3, 40, 1)
                + "door 4;door 2;cold 0 at 0;cold 0 at 2;cold 1 at 2;");
        run.each("worth 0 #", 0, 0, -17, -17, -17, -17, -10000);
        run.each("out #", 0, 0, 1, 1, 1, 1, -2);
        run.each("colds #", 0, 1, 0, 2, 0, 0);
        run.each("weld 0 1 # 9", 2, 0, 0, 0, -2);
        run.calls("tied 0 1 4 = 0", "snip 0 1 3 = 0", "count 8 = 4", "fails 0 = 1", "cold 0 = 0");
        // with one of YEAR 1 he is not alone, and is not OUT until the cut of YEAR 3
        run.calls("weld 0 1 1 9 = 1", "out 1 = 0", "tied 0 1 2 = 1", "tied 1 0 3 = 0", "firm 0 4 = 0", "fails 0 = 3",
                "anew = 5", "out 1 = 1");
        run.each("firm 0 #", 0, 1, 0, 0, 0, 0);
        run.each("wide 0 #", 0, 2, 0, 0, 0, 0);
        run.each("passes 0 #", 0, 3, 0, 0, 0, 0);
        run.each("hairs 0 1 #", 0, -1, -1, -1);
        run.calls("apart 0 1 = 0", "merger = -1");
        run.end();
        // 1 has -1 in YEAR 1, and is OUT: made of him behind it, no JOIN holds, whoever is told first
        run = new Runs("OUT, JOINS made of him", head(4, 3, 1) + partner(4, 5, 0) + partner(3, 0, 0)
                + partner(2, 5, 0) + "join 0 2 wax 1;door 4;door 5;cold 1 at 0;");
        run.calls("out 0 = 0", "out 1 = 2", "wide 0 0 = 5", "passes 0 0 = 2", "wide 0 2 = 4", "passes 0 2 = 3");
        run.calls("weld 0 1 2 2 = 0", "tied 0 1 2 = 0", "tied 1 0 2 = 0", "firm 0 2 = 1", "wide 0 2 = 4",
                "passes 0 2 = 3", "firm 1 2 = 0", "wide 1 2 = 0", "hairs 0 1 2 = -1", "hairs 1 0 2 = -1");
        run.calls("undo = 0", "weld 1 0 2 2 = 0", "tied 0 1 2 = 0", "firm 0 2 = 1", "wide 0 2 = 4", "passes 0 2 = 3");
        run.calls("weld 0 2 2 1 = 1", "firm 0 2 = 5", "wide 0 2 = 5", "wide 2 2 = 5", "passes 2 2 = 2",
                "weld 0 1 2 1 = 0", "weld 2 1 2 1 = 0", "weld 1 2 2 1 = 0", "wide 0 2 = 5", "firms 2 = 1",
                "holds 2 = 0", "out 2 = 2");
        // made in YEAR 1 itself, it keeps him in: together they have 4
        run.calls("anew = 5", "weld 1 0 1 1 = 1", "out 1 = 0", "wide 1 1 = 6", "out 2 = 2", "worth 1 2 = -1");
        run.end();
    }

    private static void coldsAboutTheYears() {
        String sick = partner(1, 5, 0);
        Runs run = new Runs("COLD, told about the last YEAR", head(3, 0, 1) + sick.repeat(5) + "door 1;"
                + "cold 0 at 0;cold 1 at 1;cold 2 at 2;cold 3 at 3;cold 4 at 11;");
        run.each("colds #", -1, -2, 1, 2, 4, -2);
        run.each("cold #", -1, -2, 0, 1, 2, -1, -1, -2);
        run.each("worth 0 #", 0, 5, 4, 4);
        run.each("worth 1 #", 0, 5, 5, 4);
        run.each("worth 2 #", 0, 5, 5, 5);
        run.end();
    }

    private static void coldsOnce() {
        Runs run = new Runs("COLD, once", head(5, 0, 2) + partner(1, 50, 0) + partner(1, 50, 0) + P
                + "door 1;cold 0 at 1;cold 0 at 1;cold 0 at 2;cold 0 at 4;cold 1 at 3;");
        run.each("colds #", 0, 0, 1, 0, 2, 0);
        run.each("worth 0 #", 0, 50, 50, 48, 48, 48);
        // tied in YEAR 0 or 2, not in YEAR 1: it does not pass
        run.calls("weld 0 1 0 1 = 1", "weld 0 1 2 9 = 1", "cold 1 = 3", "anew = 2");
        // tied in YEAR 1 alone it passes to YEAR 2, and he has none as told
        run.calls("weld 1 0 1 1 = 1");
        run.each("colds #", 0, 0, 1, 2, 0, 0);
        run.each("worth 1 #", 0, 50, 50, 50, 48, 48);
        // from 1, but not back to 0
        run.calls("weld 1 0 0 9 = 1", "weld 1 2 2 1 = 1");
        run.each("colds #", 0, 0, 1, 2, 4, 0);
        run.each("cold #", 0, 1, 2, 3);
        run.calls("anew = 3", "weld 1 2 3 1 = 1", "colds 4 = 4", "undo = 0", "weld 1 2 4 1 = 1", "colds 4 = 0");
        run.end();
    }

    private static void widthsAboutOne() {
        int[][] wides = {{1, 1}, {2, 1}, {2, 2}, {9, 9}};
        for (int[] w : wides) {
            for (int joins = 1; joins <= 7; joins++) {
                Runs run = new Runs("III, LAW 3 with " + joins + " JOINS", head(2, 3, 0) + partner(w[0], 0, 0)
                        + partner(w[1], 0, 0) + P + "join 0 1 wax 1;".repeat(joins) + "door 1;");
                int together = w[0] + w[1];
                int due = Math.max(1, together - joins);
                run.calls("wide 0 0 = " + due, "wide 1 0 = " + due, "wide 0 1 = " + w[0], "wide 2 0 = 1",
                        "passes 1 0 = " + (due == 1 ? 1 : 0));
                // one made is one JOIN more; one of YEAR 1 is none in YEAR 0
                run.calls("weld 0 1 1 1 = 1", "wide 0 0 = " + due, "wide 0 1 = " + Math.max(1, together - 1),
                        "weld 0 1 0 1 = 1", "wide 0 0 = " + Math.max(1, together - joins - 1));
                run.end();
            }
        }
    }

    private static void doorsAboutTheWidth() {
        int[] wide = {7, 4, 4, 6};
        for (int law = 0; law < 4; law++) {
            String doors = "door " + (wide[law] - 1) + ";door " + wide[law] + ";door " + (wide[law] + 1) + ";";
            Runs run = new Runs("III, about the width by LAW " + law, head(1, law, 0) + partner(3, 0, 0)
                    + partner(4, 0, 0) + "join 0 1 wax 1;" + doors + "door 1;door 60;");
            run.calls("wide 0 0 = " + wide[law], "passes 0 0 = 22", "passes 1 0 = 22");
            for (int other = 0; other < 4; other++) {
                for (int d = 0; d < 3; d++) {
                    int goes = wide[other] <= wide[law] - 1 + d ? 1 : 0;
                    run.calls("by " + d + " " + other + " = " + goes);
                }
            }
            run.end();
        }
    }

    private static void hairsOfSix() {
        StringBuilder joins = new StringBuilder();
        for (int p = 0; p < 5; p++) {
            joins.append("join ").append(p).append(' ').append(p + 1).append(" wax 1;");
        }
        Runs run = new Runs("promise 16, six in a row", head(2, 0, 0) + P.repeat(6) + joins + "door 1;");
        run.each("hairs 0 # 0", -1, -2, 0, 1, 2, 3, 4, 5, -2);
        run.each("hairs # 5 0", -1, -2, 5, 4, 3, 2, 1, 0, -2);
        run.each("hairs 0 # 1", -1, -2, 0, -1, -1, -1, -1, -1, -2);
        run.calls("largest 0 = 6", "largest 1 = 1", "firm 3 0 = 63", "merger = 0", "singles 0 = 0", "singles 1 = 63");
        run.calls("weld 5 0 0 1 = 1");
        run.each("hairs 0 # 0", 0, 0, 1, 2, 3, 2, 1);
        run.calls("snip 2 3 0 = 1");
        run.each("hairs 2 # 0", 0, 2, 1, 0, 5, 4, 3);
        run.calls("snip 4 5 0 = 1", "hairs 2 3 0 = -1", "hairs 2 5 0 = 3", "hairs 3 4 0 = 1", "largest 0 = 4");
        run.end();
        // the JOINS of the YEAR itself count: 0 - 2 in YEAR 0, 0 - 1 in 0 to 2, 1 - 2 in 0 and 1
        run = new Runs("promise 16, YEAR by YEAR", head(4, 0, 0) + P + P + P
                + "join 0 2 wax 1;join 0 1 wax 3;join 1 2 wax 2;door 1;");
        run.each("hairs 0 2 #", 0, 1, 2, -1, -1);
        run.each("hairs 2 1 #", 0, 1, 1, -1, -1);
        run.calls("weld 2 0 2 1 = 1");
        run.each("hairs 0 2 #", 0, 1, 2, 1, -1);
        run.each("hairs 2 1 #", 0, 1, 1, 2, -1);
        run.end();
    }

    private static void nobodyAndOne() {
        Runs run = new Runs("nobody", head(2, 0, 0) + "door 1;");
        run.calls("holds 1 = 0", "firms 1 = 0", "largest 1 = 0", "colds 1 = 0", "out 1 = 0", "richest 1 = -1",
                "merger = -1", "singles 1 = 0", "total 1 = 0", "firm 0 0 = -2", "cold 0 = -2", "fails 0 = -2",
                "worth 0 0 = -10000", "funds 0 0 = -10000", "hairs 0 0 0 = -2", "parts 0 = -2");
        run.end();
        run = new Runs("one", head(2, 0, 3) + partner(1, 2, 0) + "door 1;cold 0 at 0;");
        run.calls("firms 0 = 1", "largest 0 = 1", "richest 0 = 0", "merger = 0", "singles 0 = 1", "total 0 = 2",
                "hairs 0 0 0 = 0");
        run.calls("firms 1 = 0", "largest 1 = 0", "richest 1 = -1", "singles 1 = 0", "total 1 = 0", "out 1 = 1");
        run.end();
        run = new Runs("two", head(3, 0, 0) + P + P + "door 1;");
        run.calls("merger = -1", "apart 0 1 = 0", "weld 0 1 2 1 = 1", "merger = 2", "apart 1 0 = 0",
                "weld 0 1 0 1 = 1", "merger = 0", "apart 0 1 = 1", "weld 0 1 1 1 = 1", "apart 0 1 = -1");
        run.end();
    }

    private static void allOut() {
        Runs run = new Runs("all are OUT", head(4, 0, 9) + partner(1, 4, 0) + partner(1, 3, 0)
                + "join 0 1 wax 9;door 2;cold 0 at 0;cold 1 at 1;");
        run.each("out #", 0, 0, 3, 3, 3);
        run.each("holds #", 0, 1, 0, 0, 0);
        run.each("firms #", 0, 1, 0, 0, 0);
        run.each("largest #", 0, 2, 0, 0, 0);
        run.each("richest #", 0, 0, -1, -1, -1);
        run.each("singles #", 0, 0, 0, 0, 0);
        run.each("total #", 0, 7, 0, 0, 0);
        run.each("colds #", 0, 1, 0, 0, 0);
        run.calls("parts 0 = 1", "merger = 0", "apart 0 1 = 1", "cold 1 = -1", "fails 1 = 1", "worth 1 1 = 3");
        // cut in YEAR 1 the other one is not OUT with him, nor sick of him: he was told to be in YEAR 1
        run.calls("snip 0 1 1 = 0", "fails 0 = 1", "cold 1 = 1", "fails 1 = 2", "parts 0 = 1", "richest 1 = 1");
        run.each("firms #", 0, 1, 1, 0, 0);
        run.each("total #", 0, 7, 3, 0, 0);
        run.end();
    }

    private static void firstOfSeveral() {
        Runs run = new Runs("the first of several", head(2, 0, 0) + partner(1, 4, 0) + partner(1, 9, 0)
                + partner(1, 5, 0) + partner(1, 9, 1) + "door 1;");
        run.calls("richest 0 = 1", "richest 1 = 3", "weld 0 2 0 1 = 1", "richest 0 = 0", "weld 2 0 1 1 = 1",
                "richest 1 = 3", "weld 1 3 0 9 = 1", "richest 0 = 1", "weld 0 1 1 1 = 1", "richest 1 = 0");
        run.end();
    }

    private static void behindTheLastYear() {
        // what was in YEARS that there are no more is not seen
        Runs run = new Runs("fewer YEARS than ahead", head(12, 0, 0) + P + P + "join 0 1 wax 9;door 2;");
        run.calls("merger = 0", "firms 2 = 1", "out 11 = 0", "total 11 = 0");
        run.text(head(2, 0, 0) + P + P + "door 2;");
        run.calls("city = 4", "merger = -1", "apart 0 1 = 0", "firms 2 = -2", "total 2 = -10000", "cold 0 = -1");
        run.text(head(12, 0, 0) + P + P + "door 2;");
        run.calls("city = 4", "merger = -1", "firms 11 = 2", "weld 0 1 11 9 = 1", "merger = 11", "firms 11 = 1",
                "apart 0 1 = 0", "snip 0 1 11 = 1", "merger = -1");
        run.end();
    }

    private static void sixPartners() {
        Runs run = new Runs("six PARTNERS", head(2, 1, 5) + partner(1, 1, 0) + partner(2, 2, 0) + partner(3, 3, 0)
                + partner(4, 4, 0) + partner(5, 5, 0) + partner(6, 6, 0) + "door 5;door 6;cold 5 at 0;cold 4 at 0;");
        run.each("wide # 0", -1, -2, 1, 2, 3, 4, 5, 6, -2);
        run.each("passes # 0", -1, -2, 3, 3, 3, 3, 3, 2, -2);
        run.each("worth # 1", -1, -10000, 1, 2, 3, 4, 0, 1, -10000);
        run.each("by 0 #", 0, 5, 5, 6, 5);
        run.each("by 1 #", 0, 6, 6, 6, 6);
        run.calls("firms 0 = 6", "total 0 = 21", "total 1 = 11", "richest 0 = 5", "richest 1 = 3", "singles 0 = 63",
                "colds 0 = 48", "out 1 = 0", "weld 4 5 0 1 = 1", "firms 0 = 5", "largest 0 = 2", "by 1 0 = 4",
                "by 1 1 = 5", "by 0 1 = 4", "sneezer = 0", "mean 0 = 5", "mean 1 = 1");
        run.end();
    }
}
