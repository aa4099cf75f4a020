import java.util.ArrayList;
import java.util.List;

/** No answer hangs on what was asked, told or kept ahead of it: a fresh object answers the same. */
public final class FreshTest {
    private static final String[] CITIES = {
        "city years 4 law 0 slump 9 odds 3;partner wide 3 worth 10 gains 1;partner wide 2 worth 5 gains 0;"
            + "partner wide 4 worth 8 gains 2;join 0 1 wax 3;join 1 2 wax 2;door 5;door 9;cold 0 at 0;",
        "city years 12 law 3 slump 20 odds 6;partner wide 9 worth 30 gains 9;partner wide 8 worth 99 gains 8;"
            + "partner wide 7 worth 70 gains 7;partner wide 6 worth 60 gains 6;join 2 0 wax 9;join 3 1 wax 9;"
            + "join 0 3 wax 8;join 1 0 wax 9;door 60;door 12;door 14;cold 1 at 2;cold 2 at 3;cold 3 at 4;",
        "city years 2 law 2 slump 0 odds 0;partner wide 1 worth 0 gains 0;partner wide 1 worth 0 gains 0;"
            + "partner wide 1 worth 0 gains 0;door 1;door 3;",
        "city years 3 law 1 slump 5 odds 10;partner wide 5 worth 4 gains 3;partner wide 4 worth 7 gains 2;"
            + "partner wide 6 worth 9 gains 1;join 2 1 wax 1;join 0 2 wax 1;door 4;door 6;cold 2 at 1;cold 1 at 0;",
        "city years 1 law 0 slump 0 odds 5;"};
    private static final String[][] ACTS = {
        {"weld 0 2 1 3", "snip 0 1 2", "weld 1 0 3 9"},
        {"snip 3 1 4", "weld 1 2 0 2", "snip 1 0 0", "weld 3 0 9 9"},
        {"weld 2 1 1 1"},
        {"weld 1 0 0 2", "snip 2 0 0", "weld 1 2 2 1", "snip 1 2 2", "weld 2 0 1 9"},
        {}};
    private static final String[] DISTURBING = {"firms 0", "guards 1", "guarded 2", "sneezer", "gets 0 1 1 1",
        "rests 0 2", "when 1 2", "trues 0", "laws 0", "ask 1", "snips 0 2", "wax 0 1", "chance 0 1 0", "through 0 0 0",
        "mean 0", "drawn 3 0", "luck 1 3 0", "best 0", "ways 1", "share 0 0 0", "leave 2 0"};
    private static final List<String> QUESTIONS = questions();

    private FreshTest() {
    }

    public static void main(String[] args) {
        disturbed();
        changed();
        retold();
        faulty();
        broughtBack();
        Checks.end();
    }

    private static List<String> questions() {
        List<String> all = new ArrayList<>();
        for (String each : new String[] {"holds #", "firms #", "largest #", "colds #", "out #", "richest #", "singles #",
            "total #", "firm 0 #", "wide 1 #", "passes 2 #", "worth 0 #", "funds 1 #", "tied 0 1 #", "tied 1 2 #",
            "tied 0 2 #", "hairs 0 2 #"}) {
            for (int year = 0; year < 4; year++) {
                all.add(each.replace("#", Integer.toString(year)));
            }
        }
        for (String each : new String[] {"partner # 0", "partner # 1", "partner # 2", "join # 0", "join # 1", "join # 2",
            "door #", "cold #", "fails #", "parts #", "best #", "bests #", "sets #", "ways #", "share # 0 0",
            "share 0 # 1", "fair 2 #", "leave 2 #", "guards #", "guarded #", "trues #", "surely #", "never #", "ask #",
            "leaves #", "laws #", "by # 1", "through # 1 0", "through 1 # 1", "mean #"}) {
            for (int i = 0; i < 2; i++) {
                all.add(each.replace("#", Integer.toString(i)));
            }
        }
        for (String each : new String[] {"apart 0 1", "apart 1 2", "merger", "snips 0 2", "snipped 0 2", "wax 0 2",
            "snips 1 2", "snipped 1 0", "wax 1 0", "sneezer", "rests 0 1", "gets 0 1 0 0", "gets 1 0 1 0", "gets 2 1 0 1",
            "when 0 1", "when 1 2", "chance 0 1 0", "chance 0 2 1", "drawn 3 0", "drawn 3 1", "luck 5 20 1"}) {
            all.add(each);
        }
        for (int what = 0; what < 10; what++) {
            all.add("count " + what);
        }
        return all;
    }

    private static void rows(WaxedPartners x) {
        x.row(0, 0, 0);
        Checks.fill(x, 1, 0, 0, 0, 1);
        Checks.fill(x, 2, 1, 10, 5, 8);
    }

    private static void tell(WaxedPartners x, int city) {
        Checks.read(x, CITIES[city]);
        for (String act : ACTS[city]) {
            Runs.call(x, act);
        }
    }

    private static WaxedPartners fresh(int city) {
        WaxedPartners x = new WaxedPartners();
        rows(x);
        tell(x, city);
        return x;
    }

    private static int[] answers(WaxedPartners x) {
        int[] answers = new int[QUESTIONS.size()];
        for (int i = 0; i < answers.length; i++) {
            answers[i] = Runs.call(x, QUESTIONS.get(i));
        }
        return answers;
    }

    private static void same(WaxedPartners x, int[] due) {
        int[] got = answers(x);
        for (int i = 0; i < due.length; i++) {
            Checks.due(QUESTIONS.get(i), got[i], due[i]);
        }
    }

    private static void disturbed() {
        for (int city = 0; city < CITIES.length; city++) {
            for (String question : QUESTIONS) {
                int due = Runs.call(fresh(city), question);
                WaxedPartners x = fresh(city);
                for (String disturbing : DISTURBING) {
                    Checks.section("CITY " + city + ", behind " + disturbing);
                    Runs.call(x, disturbing);
                    Checks.due(question, Runs.call(x, question), due);
                }
            }
        }
    }

    private static void changed() {
        for (int city = 0; city < CITIES.length; city++) {
            Checks.section("CITY " + city + ", asked first behind an act");
            for (String question : QUESTIONS) {
                WaxedPartners x = new WaxedPartners();
                rows(x);
                Checks.read(x, CITIES[city]);
                Runs.call(x, question);
                for (String act : ACTS[city]) {
                    Runs.call(x, act);
                    Runs.call(x, "anew");
                }
                for (String act : ACTS[city]) {
                    Runs.call(x, act);
                }
                Checks.due(question, Runs.call(x, question), Runs.call(fresh(city), question));
            }
        }
    }

    private static void retold() {
        for (int first = 0; first < CITIES.length; first++) {
            for (int second = 0; second < CITIES.length; second++) {
                for (int third = 0; third < CITIES.length; third++) {
                    Checks.section("CITY " + third + " behind " + second + " behind " + first);
                    WaxedPartners x = new WaxedPartners();
                    rows(x);
                    tell(x, first);
                    Runs.call(x, "firms 0");
                    tell(x, second);
                    Runs.call(x, "firms 0");
                    tell(x, third);
                    same(x, answers(fresh(third)));
                }
            }
        }
    }

    private static void faulty() {
        for (int city = 0; city < CITIES.length; city++) {
            Checks.section("CITY " + city + " behind a FAULT in another");
            for (int other = 0; other < CITIES.length; other++) {
                WaxedPartners x = fresh(city);
                Checks.due("city()", Checks.read(x, CITIES[other] + "city"), -4);
                same(x, answers(fresh(city)));
                tell(x, other);
                Checks.due("firms 0", x.firms(0), fresh(other).firms(0));
            }
        }
    }

    private static void broughtBack() {
        for (int city = 0; city < CITIES.length; city++) {
            for (int other = 0; other < CITIES.length; other++) {
                Checks.section("CITY " + city + " brought back in place of " + other);
                WaxedPartners x = fresh(city);
                x.image(other % 3);
                tell(x, other);
                x.image((other + 1) % 3);
                x.anew();
                x.back(other % 3);
                same(x, answers(fresh(city)));
                // the last act is taken back in both
                WaxedPartners y = fresh(city);
                Checks.due("undo", x.undo(), y.undo());
                Checks.due("out(1)", x.out(1), y.out(1));
                x.back((other + 1) % 3);
                Checks.due("firm(0, 1) of the other", x.firm(0, 1), fresh(other).firm(0, 1));
            }
        }
    }
}
