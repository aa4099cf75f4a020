import java.util.function.ToIntFunction;

/** Promises 1 to 8: each bound that the text, the TAPE and what is told have, from both its sides. */
public final class TextBoundsTest {
    private static final String HEAD = "city years 3 law 1 slump 2 odds 4;";
    private static final String P = "partner wide 1 worth 2 gains 3;";
    private static final String J = "join 0 1 wax 2;";
    private static final String D = "door 7;";
    private static final String C = "cold 0 at 1;";

    private TextBoundsTest() {
    }

    public static void main(String[] args) {
        numbers();
        partnersToldAhead();
        howMany();
        bytesWithinAWord();
        bytesBehindANumber();
        longTokens();
        ofOnePlace();
        theEnd();
        fullTape();
        feedRefused();
        endRefused();
        cityRefused();
        faultAsked();
        toldAsked();
        Checks.end();
    }

    private static void fault(String call, WaxedPartners x, int lines, int kind, int place) {
        Checks.due("city() of " + call, x.city(), lines);
        Checks.due("fault(0) of " + call, x.fault(0), kind);
        Checks.due("fault(1) of " + call, x.fault(1), place);
    }

    private static void text(String text, int lines, int kind, int place) {
        WaxedPartners x = new WaxedPartners();
        Checks.feed(x, text);
        fault(text, x, lines, kind, place);
    }

    private static void good(String text) {
        text(text, text.length() - text.replace(";", "").length(), 0, -1);
    }

    /** The number that stands for ^ in a text: good from least to most, and told again by told. */
    private static void number(String marked, int least, int most, ToIntFunction<WaxedPartners> told) {
        int place = marked.indexOf('^');
        for (int v = Math.max(0, least - 1); v <= most + 1; v++) {
            String text = marked.replace("^", Integer.toString(v));
            if (v < least || v > most) {
                text(text, -4, 2, place);
            } else {
                WaxedPartners x = new WaxedPartners();
                Checks.feed(x, text);
                fault(text, x, text.length() - text.replace(";", "").length(), 0, -1);
                Checks.due("told by " + text, told.applyAsInt(x), v);
            }
        }
        text(marked.replace("^", "4294967297"), -4, 2, place);
        text(marked.replace("^", "-1"), -4, 1, place);
        text(marked.replace("^", ""), -4, 1, marked.charAt(place + 1) == ' ' ? place + 1 : place);
        good(marked.replace("^", "00" + most));
    }

    private static void numbers() {
        Checks.section("I, bounds of numbers");
        number("city years ^law 0 slump 0 odds 0;", 1, 12, x -> x.count(0));
        number("city years 1 law ^ slump 0 odds 0;", 0, 3, x -> x.count(1));
        number("city years 1 law 0 slump ^ odds 0;", 0, 20, x -> x.count(2));
        number("city years 1 law 0 slump 0 odds ^;", 0, 10, x -> x.count(3));
        number(HEAD + "partner wide ^ worth 1 gains 1;", 1, 9, x -> x.partner(0, 0));
        number(HEAD + "partner wide 1 worth ^ gains 1;", 0, 99, x -> x.partner(0, 1));
        number(HEAD + "partner wide 1 worth 1 gains ^;", 0, 9, x -> x.partner(0, 2));
        number(HEAD + P + P + "join 1 0 wax ^;", 1, 9, x -> x.join(0, 2));
        number(HEAD + "door ^;", 1, 60, x -> x.door(0));
        number("city years 12 law 1 slump 2 odds 4;" + P + "cold 0 at ^;", 0, 11, x -> x.cold(0));
    }

    private static void partnersToldAhead() {
        Checks.section("I, a PARTNER told ahead");
        for (int told = 1; told <= 6; told++) {
            String text = HEAD + P.repeat(told);
            int place = text.length() + 5;
            for (int p = 0; p <= told; p++) {
                boolean known = p < told;
                text(text + "cold " + p + " at 0;", known ? told + 2 : -4, known ? 0 : 2, known ? -1 : place);
                int other = told - 1 - p;
                boolean good = known && other != p;
                text(text + "join " + p + " " + Math.max(0, other) + " wax 1;", good ? told + 2 : -4, good ? 0 : 2,
                        good ? -1 : known ? place + 2 : place);
                text(text + "join " + p + " " + p + " wax 1;", -4, 2, known ? place + 2 : place);
            }
            text(text + "join " + told + " 0 wax 1;" + P, -4, 2, place);
            text(text + "join 0 " + told + " wax 1;" + P, -4, 2, place + 2);
            text(text + "cold " + told + " at 1;" + P, -4, 2, place);
        }
        text(HEAD + "cold 0 at 1;" + P, -4, 2, HEAD.length() + 5);
        text(HEAD + "join 0 1 wax 1;" + P + P, -4, 2, HEAD.length() + 5);
        good(HEAD + P + D + C + P + J + P + "join 2 1 wax 9;" + C);
    }

    private static void howMany() {
        Checks.section("I, FAULT 3");
        many(HEAD, P, 6);
        many(HEAD + P + P, J, 7);
        many(HEAD, D, 5);
        many(HEAD + P, C, 5);
        String full = HEAD + P.repeat(6) + J.repeat(7) + D.repeat(5) + C.repeat(5);
        WaxedPartners x = new WaxedPartners();
        Checks.due("city() of as many as there can be", Checks.read(x, full), 24);
        int[] due = {6, 7, 5, 5};
        for (int i = 0; i < 4; i++) {
            Checks.due("count(" + (4 + i) + ")", x.count(4 + i), due[i]);
        }
        for (String one : new String[] {P, J, D, C}) {
            text(full + one, -4, 3, full.length());
            text(full + one.substring(0, one.indexOf(' ')), -4, 3, full.length());
            text(full + one.substring(0, 3), -4, 1, full.length());
        }
    }

    private static void many(String ahead, String one, int most) {
        for (int n = 0; n <= most + 1; n++) {
            String text = ahead + one.repeat(n);
            if (n <= most) {
                good(text);
            } else {
                text(text, -4, 3, ahead.length() + one.length() * most);
            }
        }
    }

    private static void bytesWithinAWord() {
        Checks.section("I, TOKENS: each byte between a word and a number");
        int word = HEAD.length();
        for (int b = 0; b < 256; b++) {
            String text = HEAD + "door" + (char) b + "3;";
            if (b == 32 || b == 10) {
                text(text, 2, 0, -1);
            } else if (b >= 'a' && b <= 'z') {
                text(text, -4, 1, word);
            } else if (b >= '0' && b <= '5') {
                text(text, 2, 0, -1);
            } else {
                text(text, -4, b >= '6' && b <= '9' ? 2 : 1, word + 4);
            }
        }
    }

    private static void bytesBehindANumber() {
        Checks.section("I, TOKENS: each byte between a number and the sign");
        int number = HEAD.length() + 5;
        for (int b = 0; b < 256; b++) {
            String text = HEAD + "door 3" + (char) b + ";";
            if (b == 32 || b == 10 || b >= '0' && b <= '9') {
                text(text, 2, 0, -1);
            } else {
                text(text, -4, 1, b == ';' ? number + 2 : number + 1);
            }
        }
    }

    private static void longTokens() {
        Checks.section("I, TOKENS: the longest");
        String zeros = "0".repeat(700);
        good(HEAD + "door " + zeros + "60;");
        text(HEAD + "door " + zeros + "61;", -4, 2, HEAD.length() + 5);
        text(HEAD + "door " + "9".repeat(700) + ";", -4, 2, HEAD.length() + 5);
        text(HEAD + "door 1" + zeros + ";", -4, 2, HEAD.length() + 5);
        text(HEAD + "door" + "r".repeat(700), -4, 1, HEAD.length());
        good("city\nyears3law\n1slump 2odds4 ; door7;\n");
        text("cityyears 3 law 1 slump 2 odds 4;", -4, 1, 0);
        text("city years3law1slump2odds4door", -4, 1, 26);
        text(HEAD + "door 1 2;", -4, 1, HEAD.length() + 7);
    }

    private static void ofOnePlace() {
        Checks.section("I, FAULTS: the first by its place, of one place the least");
        String six = HEAD + P.repeat(6);
        text(six + "door partner", -4, 1, six.length() + 5);
        text(six.substring(0, six.length() - 1) + " " + P, -4, 1, six.length());
        text("city 99 years", -4, 1, 5);
        text("city years 0 law 4 slump 21 @", -4, 2, 11);
        text("city years 1 law 4 slump 21 @", -4, 2, 17);
        text("city years 1 law 0 slump 20 @", -4, 1, 28);
        text("@city years 0", -4, 1, 0);
        text(six + "partner wide 0 @", -4, 3, six.length());
        text(HEAD + "door 0" + P.repeat(9), -4, 2, HEAD.length() + 5);
        text(HEAD + P + "join 0 0 wax 0", -4, 2, HEAD.length() + P.length() + 7);
        text(HEAD + "city", -4, 1, HEAD.length());
        text("city city", -4, 1, 5);
        text(P + HEAD, -4, 1, 0);
        text(HEAD + D + HEAD, -4, 1, HEAD.length() + D.length());
    }

    private static void theEnd() {
        Checks.section("I, FAULTS: the end's place");
        String whole = HEAD + P + P + J + D + C;
        int lines = 0;
        for (int n = 0; n <= whole.length(); n++) {
            WaxedPartners x = new WaxedPartners();
            Checks.feed(x, whole);
            Checks.due("end(" + n + ")", x.end(n), n);
            if (n == 0 || whole.charAt(n - 1) == ';') {
                fault("whole LINES", x, lines, 0, -1);
                lines++;
            } else if (whole.charAt(n - 1) == ' ' || endsATokenAt(whole, n)) {
                fault("its first " + n + " bytes", x, -4, 1, n);
            } else {
                Checks.due("a word cut in two", x.city(), -4);
                Checks.due("a word cut in two", x.fault(0), 1);
            }
        }
        for (int blanks = 1; blanks < 4; blanks++) {
            good(HEAD + " \n ".substring(0, blanks));
            text(HEAD + "door" + " \n ".substring(0, blanks), -4, 1, HEAD.length() + 4 + blanks);
            text(HEAD + "door 7" + " \n ".substring(0, blanks), -4, 1, HEAD.length() + 6 + blanks);
        }
    }

    private static boolean endsATokenAt(String text, int n) {
        return text.charAt(n) == ' ' || text.charAt(n) == ';';
    }

    private static void fullTape() {
        Checks.section("800 bytes");
        String blanks = " ".repeat(800);
        good((HEAD + blanks).substring(0, 800));
        good(blanks.substring(HEAD.length()) + HEAD);
        text((HEAD + blanks).substring(0, 799) + "A", -4, 1, 799);
        text((HEAD + blanks).substring(0, 799) + ";", -4, 1, 799);
        text((HEAD + "door 7" + blanks).substring(0, 800), -4, 1, 800);
        text((HEAD + blanks).substring(0, 796) + "door", -4, 1, 800);
        good((HEAD + blanks).substring(0, 793) + D);
    }

    private static void feedRefused() {
        for (int kept : new int[] {781, 782, 799, 800}) {
            Runs run = new Runs("promise 2, beyond 800 from " + kept, HEAD + D);
            run.text(HEAD + D + " ".repeat(800 - HEAD.length() - D.length()));
            run.calls("end " + kept + " = " + kept, "feed 1 2 3 4 5 = -1", "feed 0 0 0 0 0 = -1",
                    "count 10 = " + kept, "city = 2", "count 10 = 0",
                    "feed 168430090 168430090 168430090 168430090 168430090 = 20");
            run.end();
        }
        for (int kept : new int[] {0, 1, 20, 779, 780}) {
            WaxedPartners x = new WaxedPartners();
            Checks.feed(x, " ".repeat(kept));
            Checks.due("feed behind " + kept, x.feed(0x20202020, 0x20202020, 0x20202020, 0x20202020, 0x2020203b),
                    kept + 20);
            fault("a sign at the very last", x, -4, 1, kept + 19);
        }
    }

    private static void endRefused() {
        for (int kept : new int[] {0, 1, 34, 799, 800}) {
            Runs run = new Runs("promise 3, with " + kept);
            run.text(" ".repeat(kept));
            run.calls("count 10 = " + kept);
            run.each("end #", kept + 1, -1, -1);
            run.calls("end -1 = -1", "end MIN = -1", "end MAX = -1", "count 10 = " + kept);
            run.calls("end " + kept + " = " + kept, "count 10 = " + kept, "end 0 = 0", "count 10 = 0");
            run.calls("end 1 = -1", "end 0 = 0");
            run.end();
        }
        Runs run = new Runs("promise 3, the first bytes alone");
        run.text(HEAD + "door 12;");
        run.calls("end 40 = 40");
        run.text(";");
        run.calls("end 41 = 41", "end 42 = -1", "city = 2", "door 0 = 1");
        run.end();
    }

    private static void cityRefused() {
        Checks.section("promise 4, all else stays");
        String[] bad = {"@", HEAD + HEAD, HEAD + P.repeat(7), HEAD + D + "door 0;", "city", HEAD + P + P + J.repeat(8)};
        for (String text : bad) {
            Runs run = new Runs("promise 4, a FAULT in " + text, HEAD + P + P + D + J);
            run.calls("rate 7 = 2", "weld 0 1 2 3 = 1", "image 1 = 0", "snip 0 1 1 = 1", "row 2 1 3 = 0",
                    "write 2 0 5 = 0");
            run.text(text);
            run.calls("city = -4", "count 10 = 0", "count 9 = 5", "count 8 = 2", "count 2 = 7", "count 11 = 1",
                    "holds 0 = 1", "holds 1 = 0", "tied 0 1 2 = 1", "door 0 = 7", "undo = 1", "holds 1 = 1");
            run.calls("city = 0", "count 9 = 0", "fault 0 = 0", "fault 1 = -1", "back 1 = 0", "count 8 = 1");
            run.end();
        }
        Runs run = new Runs("promise 4, in place of another", HEAD + P + P + D + J + C);
        run.calls("weld 0 1 2 3 = 1", "rate 1 = -5", "undo = 0", "rate 1 = 2", "snip 1 0 2 = 0");
        run.text(HEAD + P);
        run.calls("city = 2", "count 8 = 0", "undo = -5", "count 2 = 2", "count 4 = 1", "count 5 = 0", "count 6 = 0",
                "count 7 = 0", "partner 1 0 = -2", "join 0 0 = -2", "door 0 = -2", "colds 1 = 0");
        run.end();
    }

    private static void faultAsked() {
        Runs run = new Runs("promise 5, ahead of any");
        run.calls("fault 0 = 0", "fault 1 = -1", "fault 2 = -1", "fault -1 = -1", "fault MIN = -1", "fault MAX = -1");
        run.text(HEAD + "door 61;");
        run.calls("fault 0 = 0", "fault 1 = -1", "city = -4", "fault 0 = 2", "fault 1 = 39", "fault 2 = -1",
                "fault -1 = -1", "image 0 = 0", "back 0 = 0", "fault 0 = 2", "fault 1 = 39");
        run.text("@");
        run.calls("fault 0 = 2", "city = -4", "fault 0 = 1", "fault 1 = 0", "city = 0", "fault 0 = 0", "fault 1 = -1");
        run.end();
    }

    private static void toldAsked() {
        String seven = HEAD + P.repeat(5) + "partner wide 9 worth 99 gains 8;" + J.repeat(6) + "join 5 4 wax 9;"
                + D.repeat(4) + "door 60;" + C;
        Runs run = new Runs("promises 6, 7, 8", seven);
        run.each("partner # 0", -1, -2, 1, 1, 1, 1, 1, 9, -2, -2);
        run.each("partner 5 #", -1, -2, 9, 99, 8, -2, -2);
        run.each("join # 2", -1, -2, 2, 2, 2, 2, 2, 2, 9, -2, -2);
        run.each("join 6 #", -1, -2, 5, 4, 9, -2, -2);
        run.each("door #", -1, -2, 7, 7, 7, 7, 60, -2, -2);
        for (String call : new String[] {"partner # 0", "partner 0 #", "join # 0", "join 0 #", "door #"}) {
            run.far(call, -2);
        }
        run.end();
        run = new Runs("promises 6, 7, 8, none told", HEAD);
        run.calls("partner 0 0 = -2", "join 0 0 = -2", "door 0 = -2", "count 9 = 1");
        run.end();
        run = new Runs("promise 1");
        run.calls("partner 0 0 = -2", "join 0 0 = -2", "door 0 = -2", "count 9 = 0", "count 10 = 0", "count 11 = 0",
                "holds 0 = -2", "undo = -2", "anew = -2", "rate 0 = -2", "weld 0 1 0 1 = -2", "snip 0 1 0 = -2",
                "back 0 = -6", "back 1 = -6", "back 2 = -6", "write 0 0 0 = -6", "write 3 0 0 = -6",
                "merger = -2", "sneezer = -2", "mean 0 = -2", "drawn 0 0 = -2", "end 1 = -1", "city = 0");
        run.end();
    }
}
