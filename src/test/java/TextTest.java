/** Promises 1 to 8: the tape, the text, its FAULTS, and what is told of a CITY. */
public final class TextTest {
    private static final String HEAD = "city years 3 law 1 slump 2 odds 4;";
    private static final String P = "partner wide 1 worth 2 gains 3;";

    public static void main(String[] args) {
        aNewObject();
        feeding();
        ending();
        cities();
        bounds();
        misplaced();
        tooMany();
        replacing();
        toldThings();
        Checks.end();
    }

    private static void aNewObject() {
        Checks.section("promise 1");
        WaxedPartners x = new WaxedPartners();
        for (int what = -1; what <= 12; what++) {
            Checks.due("count(" + what + ")", x.count(what), what < 0 || what > 11 ? -1 : 0);
        }
        Checks.due("firms(0)", x.firms(0), -2);
        Checks.due("merger()", x.merger(), -2);
        Checks.due("total(0)", x.total(0), -10000);
        Checks.due("back(0)", x.back(0), -6);
        Checks.due("NONE", WaxedPartners.NONE, -1);
    }

    private static void feeding() {
        Checks.section("promise 2");
        WaxedPartners x = new WaxedPartners();
        for (int n = 20; n <= 800; n += 20) {
            Checks.due("feed", x.feed(0x20202020, 0x0a0a0a0a, 0x20202020, 0x20202020, 0x20202020), n);
        }
        Checks.due("feed beyond 800", x.feed(1, 2, 3, 4, 5), -1);
        Checks.due("count(10)", x.count(10), 800);
        x.end(781);
        Checks.due("feed with 19 left", x.feed(1, 2, 3, 4, 5), -1);
        Checks.due("count(10)", x.count(10), 781);
        x.end(780);
        Checks.due("feed with 20 left", x.feed(0x20202020, 0x20202020, 0x20202020, 0x20202020, 0x41424344), 800);
        Checks.due("city()", x.city(), -4);
        Checks.due("the highest byte first", x.fault(1), 796);
        x.feed(0x63697479, 0x20796561, 0x72732033, 0x206c6177, 0x20302073);
        x.feed(0x6c756d70, 0x2031206f, 0x64647320, 0x373b2020, 0x20202020);
        Checks.due("city() of bytes", x.city(), 1);
        Checks.due("years", x.count(0), 3);
        Checks.due("odds", x.count(3), 7);
        x.feed(0xff202020, 0x20202020, 0x20202020, 0x20202020, 0x20202020);
        Checks.due("city() of byte 255", x.city(), -4);
        Checks.due("place", x.fault(1), 0);
    }

    private static void ending() {
        Checks.section("promise 3");
        WaxedPartners x = new WaxedPartners();
        Checks.due("end(0)", x.end(0), 0);
        Checks.due("end(1)", x.end(1), -1);
        Checks.due("end(-1)", x.end(-1), -1);
        Checks.feed(x, HEAD + "A");
        Checks.due("end(36)", x.end(36), -1);
        Checks.due("end(-2147483648)", x.end(Integer.MIN_VALUE), -1);
        Checks.due("end(2147483647)", x.end(Integer.MAX_VALUE), -1);
        Checks.due("count(10)", x.count(10), 35);
        Checks.due("end(35)", x.end(35), 35);
        Checks.due("end(34)", x.end(34), 34);
        Checks.due("count(10)", x.count(10), 34);
        Checks.due("city()", x.city(), 1);
        Checks.due("count(10)", x.count(10), 0);
        Checks.due("end(1)", x.end(1), -1);
    }

    private static void cities() {
        Checks.section("promise 4");
        WaxedPartners x = new WaxedPartners();
        Checks.due("city() of nothing", x.city(), 0);
        Checks.due("fault(0)", x.fault(0), 0);
        lines(" \n ", 0);
        lines(HEAD, 1);
        lines("cityyears 3", -4);
        lines("city years3law1\nslump 02 odds0004;partner\n\nwide 1worth 2gains 3 ; ", 2);
        lines(HEAD + P + P + "join 0 1 wax 9;door 60;door 1;cold 1 at 11;", 7);
        lines(HEAD + P + P + P + P + P + P, 7);
        lines(HEAD + P + P + "join 1 0 wax 1;join 1 0 wax 1;join 1 0 wax 1;join 0 1 wax 1;"
                + "join 0 1 wax 1;join 0 1 wax 1;join 0 1 wax 1;", 10);
        lines(HEAD + "door 1;door 1;door 1;door 1;door 1;", 6);
        lines(HEAD + P + "cold 0 at 0;cold 0 at 0;cold 0 at 0;cold 0 at 0;cold 0 at 0;", 7);
        lines("city years 12 law 3 slump 20 odds 10;partner wide 9 worth 99 gains 9;", 2);
        lines("city years 1 law 0 slump 0 odds 0;partner wide 1 worth 0 gains 0;", 2);
    }

    private static void lines(String text, int due) {
        WaxedPartners x = new WaxedPartners();
        Checks.due("city() of " + text, Checks.read(x, text), due);
        Checks.due("count(9) of " + text, x.count(9), Math.max(0, due));
        Checks.due("count(10)", x.count(10), 0);
        if (due >= 0) {
            Checks.due("fault(0)", x.fault(0), 0);
            Checks.due("fault(1)", x.fault(1), -1);
        }
    }

    /** The place of a FAULT is that of the sign ^ in the text, which itself is left out. */
    private static void fault(String marked, int kind) {
        int place = marked.indexOf('^');
        String text = marked.substring(0, place) + marked.substring(place + 1);
        WaxedPartners x = new WaxedPartners();
        Checks.due("city() of " + text, Checks.read(x, text), -4);
        Checks.due("fault(0) of " + text, x.fault(0), kind);
        Checks.due("fault(1) of " + text, x.fault(1), place);
        Checks.due("fault(2)", x.fault(2), -1);
        Checks.due("fault(-1)", x.fault(-1), -1);
        Checks.due("count(10)", x.count(10), 0);
    }

    private static void bounds() {
        Checks.section("promise 5, FAULT 2");
        fault("city years ^0 law 1 slump 2 odds 4;", 2);
        fault("city years ^13 law 1 slump 2 odds 4;", 2);
        fault("city years 12 law ^4 slump 2 odds 4;", 2);
        fault("city years 1 law 3 slump ^21 odds 4;", 2);
        fault("city years 1 law 3 slump 20 odds ^11;", 2);
        fault("city years ^4294967297 law 0 slump 0 odds 0;", 2);
        fault("city years ^18446744073709551617 law 0 slump 0 odds 0;", 2);
        fault(HEAD + "partner wide ^0 worth 1 gains 1;", 2);
        fault(HEAD + "partner wide ^10 worth 1 gains 1;", 2);
        fault(HEAD + "partner wide 9 worth ^100 gains 1;", 2);
        fault(HEAD + "partner wide 9 worth 99 gains ^10;", 2);
        fault(HEAD + "join ^0 0 wax 1;", 2);
        fault(HEAD + P + "join 0 ^1 wax 1;", 2);
        fault(HEAD + P + "join 0 ^0 wax 1;", 2);
        fault(HEAD + P + P + "join 1 ^1 wax 0;", 2);
        fault(HEAD + P + P + "join ^2 1 wax 0;", 2);
        fault(HEAD + P + P + "join 1 0 wax ^0;", 2);
        fault(HEAD + P + P + "join 1 0 wax ^10;", 2);
        fault(HEAD + "door ^0;", 2);
        fault(HEAD + "door ^61;", 2);
        fault(HEAD + "cold ^0 at 0;", 2);
        fault(HEAD + P + "cold ^1 at 0;", 2);
        fault(HEAD + P + "cold 0 at ^12;", 2);
    }

    private static void misplaced() {
        Checks.section("promise 5, FAULT 1");
        fault("^;", 1);
        fault("^7", 1);
        fault("  ^A", 1);
        fault("^\t" + HEAD, 1);
        fault("\n^\u00e9", 1);
        fault("^\0", 1);
        fault("^City years", 1);
        fault("^partner wide 1 worth 2 gains 3;", 1);
        fault("^door 3;" + HEAD, 1);
        fault("^citys", 1);
        fault("^cit", 1);
        fault("city^", 1);
        fault("city   ^", 1);
        fault("city ^law 1", 1);
        fault("city years ^law", 1);
        fault("city years 3 law 1 slump 2 odds 4^", 1);
        fault("city years 3 law 1 slump 2 odds 4 \n ^", 1);
        fault("city years 3 law 1 slump 2 odds 4 ^5;", 1);
        fault("city years 3 ^; law 1", 1);
        fault("city years 3^A law 1", 1);
        fault("city years ^-3 law 1", 1);
        fault(HEAD + "^;", 1);
        fault(HEAD + "^" + HEAD, 1);
        fault(HEAD + "^4;", 1);
        fault(HEAD + "^doors 4;", 1);
        fault(HEAD + "^doo", 1);
        fault(HEAD + "^doorz 4;", 1);
        fault(HEAD + "^adoor 4;", 1);
        fault(HEAD + "^xoor 4;", 1);
        fault(HEAD + "door 4^", 1);
        fault(HEAD + "door ^;", 1);
        fault(HEAD + "door ^door", 1);
        fault(HEAD + "door 4 ^door", 1);
        fault(HEAD + "partner ^1 worth", 1);
        fault(HEAD + "partner wide 1 ^gains", 1);
        fault(HEAD + "partner wide 1 worth 1 ^;", 1);
        fault(HEAD + "partner wide 1 worth 1 gains 1 ^P", 1);
        fault(HEAD + "join ^wax", 1);
        fault(HEAD + P + "join 0 ^wax", 1);
        fault(HEAD + P + P + "join 0 1 ^2", 1);
        fault(HEAD + P + P + "join 0 1 wax ^;", 1);
        fault(HEAD + P + "cold ^at", 1);
        fault(HEAD + P + "cold 0 ^0", 1);
        fault(HEAD + P + "cold 0 at 0 ^, ", 1);
        fault("city years ^0 law 9 @", 2);
    }

    private static void tooMany() {
        Checks.section("promise 5, FAULT 3");
        String six = HEAD + P + P + P + P + P + P;
        fault(six + "^partner wide 99", 3);
        fault(six + "door 3; ^partner", 3);
        fault(six + "^partners", 1);
        String j = "join 0 1 wax 2;";
        fault(HEAD + P + P + j + j + j + j + j + j + j + "^join 0 0", 3);
        String d = "door 3;";
        fault(HEAD + d + d + d + d + d + "^door 61;", 3);
        String c = "cold 0 at 3;";
        fault(HEAD + P + c + c + c + c + c + "^cold", 3);
    }

    private static void replacing() {
        Checks.section("promise 4, in place of another");
        WaxedPartners x = new WaxedPartners();
        Checks.due("fault(1) ahead of any", x.fault(1), -1);
        Checks.due("fault(0) ahead of any", x.fault(0), 0);
        Checks.due("fault(3) ahead of any", x.fault(3), -1);
        Checks.read(x, HEAD + P + P + "door 9;");
        x.weld(0, 1, 1, 1);
        x.row(2, 0, 3);
        Checks.due("city() with a FAULT", Checks.read(x, HEAD + P + P + "door 8;door 0;"), -4);
        Checks.due("all else stays: LINES", x.count(9), 4);
        Checks.due("all else stays: acts", x.count(8), 1);
        Checks.due("all else stays: door", x.door(0), 9);
        Checks.due("fault(0)", x.fault(0), 2);
        Checks.due("city()", Checks.read(x, HEAD + P + P), 3);
        Checks.due("nothing done", x.count(8), 0);
        Checks.due("tied(0, 1, 1)", x.tied(0, 1, 1), 0);
        Checks.due("doors", x.count(6), 0);
        Checks.due("rows stay", x.count(11), 1);
        Checks.due("fault(0)", x.fault(0), 0);
        Checks.due("fault(1)", x.fault(1), -1);
        Checks.due("city() of nothing", x.city(), 0);
        Checks.due("no CITY", x.firms(0), -2);
        for (int what = 0; what < 10; what++) {
            Checks.due("nothing told: count(" + what + ")", x.count(what), 0);
        }
    }

    private static void toldThings() {
        Checks.section("promises 6, 7, 8");
        WaxedPartners x = Checks.told("city years 2 law 3 slump 5 odds 6;"
                + "partner wide 4 worth 30 gains 2;partner wide 9 worth 99 gains 9;"
                + "join 1 0 wax 7;door 12;join 0 1 wax 8;door 60;cold 1 at 1;");
        Checks.due("partner(0, 0)", x.partner(0, 0), 4);
        Checks.due("partner(0, 1)", x.partner(0, 1), 30);
        Checks.due("partner(0, 2)", x.partner(0, 2), 2);
        Checks.due("partner(1, 0)", x.partner(1, 0), 9);
        Checks.due("partner(1, 1)", x.partner(1, 1), 99);
        Checks.due("partner(1, 2)", x.partner(1, 2), 9);
        Checks.due("partner(1, 3)", x.partner(1, 3), -2);
        Checks.due("partner(1, -1)", x.partner(1, -1), -2);
        Checks.due("partner(2, 0)", x.partner(2, 0), -2);
        Checks.due("partner(-1, 0)", x.partner(-1, 0), -2);
        Checks.due("join(0, 0)", x.join(0, 0), 1);
        Checks.due("join(0, 1)", x.join(0, 1), 0);
        Checks.due("join(0, 2)", x.join(0, 2), 7);
        Checks.due("join(1, 0)", x.join(1, 0), 0);
        Checks.due("join(1, 2)", x.join(1, 2), 8);
        Checks.due("join(1, 3)", x.join(1, 3), -2);
        Checks.due("join(1, -1)", x.join(1, -1), -2);
        Checks.due("join(2, 0)", x.join(2, 0), -2);
        Checks.due("join(-1, 0)", x.join(-1, 0), -2);
        Checks.due("door(0)", x.door(0), 12);
        Checks.due("door(1)", x.door(1), 60);
        Checks.due("door(2)", x.door(2), -2);
        Checks.due("door(-1)", x.door(-1), -2);
        int[] counts = {2, 3, 5, 6, 2, 2, 2, 1, 0, 8, 0, 0};
        Checks.section("promise 62");
        for (int what = 0; what < counts.length; what++) {
            Checks.due("count(" + what + ")", x.count(what), counts[what]);
        }
    }
}
