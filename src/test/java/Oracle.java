import java.math.BigInteger;
import java.util.ArrayList;
import java.util.Arrays;
import java.util.HashSet;
import java.util.List;
import java.util.Set;

/**
 * The document told a second time, in another way than the program does it: by lists, by living
 * through the years act by act, by all orders and all partings. Slow, and only for OracleTest.
 */
final class Oracle {
    static final int NONE = -1;

    record Partner(int wide, int worth, int gains) { }

    record Join(int a, int b, int wax) { }

    record Cold(int who, int at) { }

    record Act(boolean made, int a, int b, int year, int wax) { }

    record City(int lines, int years, int law, int slump, int odds, List<Partner> partners,
            List<Join> joins, List<Integer> doors, List<Cold> colds) { }

    record Token(char kind, String text, int place) { }

    /** A JOIN in force while the years go by: index is NONE unless it was told. */
    record Live(int a, int b, int end, int index) { }

    static final class Fault extends RuntimeException {
        private static final long serialVersionUID = 1;
        final int kind;
        final int place;

        Fault(int kind, int place) {
            this.kind = kind;
            this.place = place;
        }
    }

    /** What is supposed of a city that is lived through. */
    static final class Guess {
        Set<Integer> falseJoins = new HashSet<>();
        List<Act> acts = new ArrayList<>();
        Set<Integer> kept = new HashSet<>();
        Set<Integer> sneezers = new HashSet<>();
        Set<Integer> shaved = new HashSet<>();
    }

    /** One YEAR as it was lived. */
    static final class Year {
        List<Live> holding = new ArrayList<>();
        Set<Integer> out = new HashSet<>();
        Set<Integer> sick = new HashSet<>();
        int[] worth;
        List<Set<Integer>> firms = new ArrayList<>();

        Set<Integer> firmOf(int p) {
            for (Set<Integer> firm : firms) {
                if (firm.contains(p)) {
                    return firm;
                }
            }
            return Set.of();
        }

        boolean tied(int p, int o) {
            return holding.stream().anyMatch(l -> l.a() == p && l.b() == o || l.a() == o && l.b() == p);
        }
    }

    private byte[] tape = new byte[0];
    private int fault;
    private int faultPlace = NONE;
    private City city;
    private List<Act> acts = new ArrayList<>();
    private final City[] keptCity = new City[3];
    private final List<List<Act>> keptActs = new ArrayList<>(Arrays.asList(null, null, null));
    private final long[][] rows = new long[4][];
    private final int[] rowWidths = new int[4];

    // ------------------------------------------------------------------ the text

    int feed(int... numbers) {
        if (tape.length + 20 > 800) {
            return NONE;
        }
        byte[] longer = Arrays.copyOf(tape, tape.length + 20);
        for (int i = 0; i < 20; i++) {
            longer[tape.length + i] = (byte) (numbers[i / 4] >>> 24 - 8 * (i % 4));
        }
        tape = longer;
        return tape.length;
    }

    int end(int n) {
        if (n < 0 || n > tape.length) {
            return NONE;
        }
        tape = Arrays.copyOf(tape, n);
        return n;
    }

    int city() {
        byte[] text = tape;
        tape = new byte[0];
        try {
            City read = parse(tokens(text));
            fault = 0;
            faultPlace = NONE;
            city = read.lines() == 0 ? null : read;
            acts = new ArrayList<>();
            return read.lines();
        } catch (Fault f) {
            fault = f.kind;
            faultPlace = f.place;
            return -4;
        }
    }

    private static char kindOf(int b) {
        if (b >= 'a' && b <= 'z') {
            return 'w';
        }
        if (b >= '0' && b <= '9') {
            return 'n';
        }
        return b == ';' ? ';' : b == ' ' || b == '\n' ? ' ' : '?';
    }

    private static List<Token> tokens(byte[] text) {
        List<Token> found = new ArrayList<>();
        int at = 0;
        while (at < text.length) {
            char kind = kindOf(text[at] & 255);
            int from = at++;
            while ((kind == 'w' || kind == 'n') && at < text.length && kindOf(text[at] & 255) == kind) {
                at++;
            }
            if (kind != ' ') {
                found.add(new Token(kind, new String(text, from, at - from,
                        java.nio.charset.StandardCharsets.ISO_8859_1), from));
            }
        }
        found.add(new Token('.', "", text.length));
        return found;
    }

    /** Of each kind of LINE its words; # is a number, P a PARTNER. */
    private static String[] shapeOf(String word) {
        switch (word) {
            case "city":
                return "city years # law # slump # odds # ;".split(" ");
            case "partner":
                return "partner wide # worth # gains # ;".split(" ");
            case "join":
                return "join P P wax # ;".split(" ");
            case "door":
                return "door # ;".split(" ");
            case "cold":
                return "cold P at # ;".split(" ");
            default:
                return null;
        }
    }

    private static int[] boundsOf(String word, int nth) {
        switch (word + nth) {
            case "city0":
                return new int[] {1, 12};
            case "city1":
                return new int[] {0, 3};
            case "city2":
                return new int[] {0, 20};
            case "city3":
                return new int[] {0, 10};
            case "partner0":
                return new int[] {1, 9};
            case "partner1":
                return new int[] {0, 99};
            case "partner2":
                return new int[] {0, 9};
            case "join2":
                return new int[] {1, 9};
            case "door0":
                return new int[] {1, 60};
            default:
                return new int[] {0, 11};
        }
    }

    private static City parse(List<Token> tokens) {
        List<Partner> partners = new ArrayList<>();
        List<Join> joins = new ArrayList<>();
        List<Integer> doors = new ArrayList<>();
        List<Cold> colds = new ArrayList<>();
        int[] head = new int[4];
        int lines = 0;
        int at = 0;
        while (tokens.get(at).kind() != '.') {
            Token first = tokens.get(at);
            String word = first.text();
            String[] shape = first.kind() == 'w' ? shapeOf(word) : null;
            if (shape == null || word.equals("city") != (lines == 0)) {
                throw new Fault(1, first.place());
            }
            if (word.equals("partner") && partners.size() == 6 || word.equals("join") && joins.size() == 7
                    || word.equals("door") && doors.size() == 5 || word.equals("cold") && colds.size() == 5) {
                throw new Fault(3, first.place());
            }
            List<Integer> numbers = new ArrayList<>();
            for (String part : shape) {
                Token token = tokens.get(at++);
                if (part.equals("#") || part.equals("P")) {
                    numbers.add(number(token, word, part, numbers, partners.size()));
                } else if (!token.text().equals(part)) {
                    throw new Fault(1, token.place());
                }
            }
            lines++;
            switch (word) {
                case "city":
                    for (int i = 0; i < 4; i++) {
                        head[i] = numbers.get(i);
                    }
                    break;
                case "partner":
                    partners.add(new Partner(numbers.get(0), numbers.get(1), numbers.get(2)));
                    break;
                case "join":
                    joins.add(new Join(numbers.get(0), numbers.get(1), numbers.get(2)));
                    break;
                case "door":
                    doors.add(numbers.get(0));
                    break;
                default:
                    colds.add(new Cold(numbers.get(0), numbers.get(1)));
                    break;
            }
        }
        return new City(lines, head[0], head[1], head[2], head[3], partners, joins, doors, colds);
    }

    private static int number(Token token, String word, String part, List<Integer> ahead, int partners) {
        if (token.kind() != 'n') {
            throw new Fault(1, token.place());
        }
        BigInteger value = new BigInteger(token.text());
        int least = 0;
        int most = partners - 1;
        if (part.equals("#")) {
            least = boundsOf(word, ahead.size())[0];
            most = boundsOf(word, ahead.size())[1];
        }
        boolean within = value.compareTo(BigInteger.valueOf(least)) >= 0
                && value.compareTo(BigInteger.valueOf(most)) <= 0;
        boolean twice = part.equals("P") && ahead.contains(within ? value.intValue() : NONE);
        if (!within || twice) {
            throw new Fault(2, token.place());
        }
        return value.intValue();
    }

    int fault(int what) {
        return what == 0 ? fault : what == 1 ? faultPlace : NONE;
    }

    // ------------------------------------------------------------------ living

    private List<Year> live(Guess guess) {
        List<Year> years = new ArrayList<>();
        List<Live> live = new ArrayList<>();
        for (int i = 0; i < city.joins().size(); i++) {
            Join j = city.joins().get(i);
            if (!guess.falseJoins.contains(i)) {
                live.add(new Live(j.a(), j.b(), j.wax() - 1, i));
            }
        }
        Set<Integer> out = new HashSet<>();
        Set<Integer> had = new HashSet<>();
        for (int y = 0; y < city.years(); y++) {
            final int year = y;
            live.removeIf(l -> l.end() < year);
            for (Act act : guess.acts) {
                if (act.year() == y) {
                    perform(act, live, y > 0 ? guess.shaved : Set.of());
                }
            }
            if (y == 0) {
                live.removeIf(l -> guess.shaved.contains(l.a()) || guess.shaved.contains(l.b()));
            }
            Year now = new Year();
            now.worth = worths(years, y);
            now.out.addAll(out);
            now.holding = holding(live, out);
            now.firms = firms(now.holding, out);
            for (Set<Integer> firm : now.firms) {
                if (together(firm, now.worth) < 0) {
                    out.addAll(firm);
                }
            }
            now.out.addAll(out);
            now.holding = holding(live, out);
            now.firms = firms(now.holding, out);
            for (int p = 0; p < city.partners().size(); p++) {
                if (catches(p, years, y, now, guess) && !had.contains(p) && !out.contains(p)
                        && !guess.kept.contains(p)) {
                    now.sick.add(p);
                }
            }
            had.addAll(now.sick);
            years.add(now);
        }
        return years;
    }

    private static void perform(Act act, List<Live> live, Set<Integer> unjoined) {
        if (!act.made()) {
            live.removeIf(l -> Set.of(l.a(), l.b()).equals(Set.of(act.a(), act.b())));
        } else if (!unjoined.contains(act.a()) && !unjoined.contains(act.b())) {
            live.add(new Live(act.a(), act.b(), act.year() + act.wax() - 1, NONE));
        }
    }

    private int[] worths(List<Year> years, int y) {
        int[] worth = new int[city.partners().size()];
        for (int p = 0; p < worth.length; p++) {
            Partner told = city.partners().get(p);
            if (y == 0) {
                worth[p] = told.worth();
                continue;
            }
            Year ahead = years.get(y - 1);
            worth[p] = ahead.worth[p];
            if (!ahead.out.contains(p)) {
                worth[p] += told.gains();
                if (ahead.sick.contains(p)) {
                    worth[p] -= city.slump();
                }
            }
        }
        return worth;
    }

    private static List<Live> holding(List<Live> live, Set<Integer> out) {
        return live.stream().filter(l -> !out.contains(l.a()) && !out.contains(l.b())).toList();
    }

    private List<Set<Integer>> firms(List<Live> holding, Set<Integer> out) {
        List<Set<Integer>> firms = new ArrayList<>();
        for (int p = 0; p < city.partners().size(); p++) {
            if (!out.contains(p)) {
                firms.add(new HashSet<>(Set.of(p)));
            }
        }
        for (Live l : holding) {
            Set<Integer> one = null;
            Set<Integer> other = null;
            for (Set<Integer> firm : firms) {
                one = firm.contains(l.a()) ? firm : one;
                other = firm.contains(l.b()) ? firm : other;
            }
            if (one != other) {
                one.addAll(other);
                final Set<Integer> gone = other;
                firms.removeIf(f -> f == gone);
            }
        }
        return firms;
    }

    private static int together(Set<Integer> who, int[] worth) {
        return who.stream().mapToInt(p -> worth[p]).sum();
    }

    private boolean catches(int p, List<Year> years, int y, Year now, Guess guess) {
        if (city.colds().contains(new Cold(p, y)) || y == 0 && guess.sneezers.contains(p)) {
            return true;
        }
        if (y == 0) {
            return false;
        }
        Year ahead = years.get(y - 1);
        return ahead.sick.stream().anyMatch(q -> ahead.tied(p, q));
    }

    private Guess asNow() {
        Guess guess = new Guess();
        guess.acts.addAll(acts);
        return guess;
    }

    private Year year(int y) {
        return live(asNow()).get(y);
    }

    private static int bits(Iterable<Integer> set) {
        int bits = 0;
        for (int i : set) {
            bits |= 1 << i;
        }
        return bits;
    }

    private static Set<Integer> members(int bits) {
        Set<Integer> set = new HashSet<>();
        for (int i = 0; i < 31; i++) {
            if ((bits >> i & 1) == 1) {
                set.add(i);
            }
        }
        return set;
    }

    private int width(Set<Integer> who, int law, int joins) {
        int[] wides = who.stream().mapToInt(p -> city.partners().get(p).wide()).toArray();
        int sum = Arrays.stream(wides).sum();
        if (law == 0) {
            return sum;
        }
        if (law == 1) {
            return Arrays.stream(wides).max().orElse(0);
        }
        return law == 2 ? 2 * who.size() : Math.max(1, sum - joins);
    }

    private int firmWidth(Year now, int p, int law) {
        Set<Integer> firm = now.firmOf(p);
        int joins = (int) now.holding.stream().filter(l -> firm.contains(l.a())).count();
        return firm.isEmpty() ? 0 : width(firm, law, joins);
    }

    private boolean goes(Year now, int p, int door, int law) {
        return !now.firmOf(p).isEmpty() && firmWidth(now, p, law) <= city.doors().get(door);
    }

    // ------------------------------------------------------------------ what is asked year by year

    private boolean noPartner(int p) {
        return city == null || p < 0 || p >= city.partners().size();
    }

    private boolean noPair(int p, int o) {
        return noPartner(p) || noPartner(o) || p == o;
    }

    private boolean noYear(int y) {
        return city == null || y < 0 || y >= city.years();
    }

    private boolean noDoor(int d) {
        return city == null || d < 0 || d >= city.doors().size();
    }

    private static boolean notEither(int what) {
        return what != 0 && what != 1;
    }

    int partner(int p, int what) {
        if (noPartner(p) || what < 0 || what > 2) {
            return -2;
        }
        Partner told = city.partners().get(p);
        return new int[] {told.wide(), told.worth(), told.gains()}[what];
    }

    int join(int j, int what) {
        if (city == null || j < 0 || j >= city.joins().size() || what < 0 || what > 2) {
            return -2;
        }
        Join told = city.joins().get(j);
        return new int[] {told.a(), told.b(), told.wax()}[what];
    }

    int door(int d) {
        return noDoor(d) ? -2 : city.doors().get(d);
    }

    int holds(int y) {
        return noYear(y) ? -2
                : bits(year(y).holding.stream().map(Live::index).filter(i -> i != NONE).toList());
    }

    int tied(int p, int o, int y) {
        return noPair(p, o) || noYear(y) ? -2 : year(y).tied(p, o) ? 1 : 0;
    }

    int firm(int p, int y) {
        return noPartner(p) || noYear(y) ? -2 : bits(year(y).firmOf(p));
    }

    int firms(int y) {
        return noYear(y) ? -2 : year(y).firms.size();
    }

    int wide(int p, int y) {
        return noPartner(p) || noYear(y) ? -2 : firmWidth(year(y), p, city.law());
    }

    int passes(int p, int y) {
        if (noPartner(p) || noYear(y)) {
            return -2;
        }
        Year now = year(y);
        int through = 0;
        for (int d = 0; d < city.doors().size(); d++) {
            through |= goes(now, p, d, city.law()) ? 1 << d : 0;
        }
        return through;
    }

    int largest(int y) {
        return noYear(y) ? -2 : year(y).firms.stream().mapToInt(Set::size).max().orElse(0);
    }

    int hairs(int p, int o, int y) {
        if (noPartner(p) || noPartner(o) || noYear(y)) {
            return -2;
        }
        Year now = year(y);
        if (!now.firmOf(p).contains(o)) {
            return NONE;
        }
        int[] far = new int[city.partners().size()];
        Arrays.fill(far, 100);
        far[p] = 0;
        for (int round = 0; round < 10; round++) {
            for (Live l : now.holding) {
                far[l.a()] = Math.min(far[l.a()], far[l.b()] + 1);
                far[l.b()] = Math.min(far[l.b()], far[l.a()] + 1);
            }
        }
        return far[o];
    }

    int colds(int y) {
        return noYear(y) ? -2 : bits(year(y).sick);
    }

    int cold(int p) {
        if (noPartner(p)) {
            return -2;
        }
        List<Year> years = live(asNow());
        for (int y = 0; y < years.size(); y++) {
            if (years.get(y).sick.contains(p)) {
                return y;
            }
        }
        return NONE;
    }

    int worth(int p, int y) {
        return noPartner(p) || noYear(y) ? -10000 : year(y).worth[p];
    }

    int funds(int p, int y) {
        if (noPartner(p) || noYear(y) || year(y).out.contains(p)) {
            return -10000;
        }
        return together(year(y).firmOf(p), year(y).worth);
    }

    int out(int y) {
        return noYear(y) ? -2 : bits(year(y).out);
    }

    int fails(int p) {
        if (noPartner(p)) {
            return -2;
        }
        for (int y = 0; y < city.years(); y++) {
            if (year(y).out.contains(p)) {
                return y;
            }
        }
        return NONE;
    }

    int richest(int y) {
        if (noYear(y)) {
            return -2;
        }
        Year now = year(y);
        int found = NONE;
        for (int p = city.partners().size() - 1; p >= 0; p--) {
            if (!now.out.contains(p) && (found == NONE || together(now.firmOf(p), now.worth)
                    >= together(now.firmOf(found), now.worth))) {
                found = p;
            }
        }
        return found;
    }

    int parts(int j) {
        if (city == null || j < 0 || j >= city.joins().size()) {
            return -2;
        }
        for (int y = 0; y < city.years(); y++) {
            if ((holds(y) >> j & 1) == 0) {
                return y;
            }
        }
        return NONE;
    }

    int merger() {
        if (city == null) {
            return -2;
        }
        for (int y = 0; y < city.years(); y++) {
            Year now = year(y);
            if (now.firms.size() == 1 && now.firms.get(0).size() == city.partners().size()) {
                return y;
            }
        }
        return NONE;
    }

    int apart(int p, int o) {
        if (noPair(p, o)) {
            return -2;
        }
        for (int y = 0; y < city.years(); y++) {
            if (!year(y).firmOf(p).contains(o)) {
                return y;
            }
        }
        return NONE;
    }

    int singles(int y) {
        return noYear(y) ? -2 : year(y).firms.stream().filter(f -> f.size() == 1).mapToInt(Oracle::bits).sum();
    }

    int total(int y) {
        return noYear(y) ? -10000 : year(y).firms.stream().mapToInt(f -> together(f, year(y).worth)).sum();
    }

    // ------------------------------------------------------------------ sets

    private int subsets() {
        return 1 << city.partners().size();
    }

    private boolean fits(Set<Integer> who, int d) {
        return who.isEmpty() || width(who, city.law(), who.size() - 1) <= city.doors().get(d);
    }

    private int value(Set<Integer> who, int d) {
        return fits(who, d) ? who.stream().mapToInt(p -> city.partners().get(p).worth()).sum() : 0;
    }

    int best(int d) {
        if (noDoor(d)) {
            return -2;
        }
        int most = 0;
        for (int set = 0; set < subsets(); set++) {
            most = Math.max(most, value(members(set), d));
        }
        return most;
    }

    int bests(int d) {
        if (noDoor(d)) {
            return -2;
        }
        for (int set = 0; set < subsets(); set++) {
            if (fits(members(set), d) && value(members(set), d) == best(d)) {
                return set;
            }
        }
        throw new IllegalStateException();
    }

    /** All partings of PARTNERS from one on, each put to a set there is, or to a new one. */
    private void partings(int p, List<Set<Integer>> sets, int d, List<Integer> sizes) {
        if (p == city.partners().size()) {
            if (sets.stream().allMatch(s -> fits(s, d))) {
                sizes.add(sets.size());
            }
            return;
        }
        for (int i = 0; i <= sets.size(); i++) {
            List<Set<Integer>> next = new ArrayList<>();
            for (Set<Integer> s : sets) {
                next.add(new HashSet<>(s));
            }
            if (i == sets.size()) {
                next.add(new HashSet<>());
            }
            next.get(i).add(p);
            partings(p + 1, next, d, sizes);
        }
    }

    int sets(int d) {
        if (noDoor(d)) {
            return -2;
        }
        List<Integer> sizes = new ArrayList<>();
        partings(0, new ArrayList<>(), d, sizes);
        return sizes.stream().mapToInt(i -> i).min().orElse(NONE);
    }

    int ways(int d) {
        int fewest = sets(d);
        if (fewest < 0) {
            return fewest;
        }
        List<Integer> sizes = new ArrayList<>();
        partings(0, new ArrayList<>(), d, sizes);
        return (int) sizes.stream().filter(s -> s == fewest).count();
    }

    private void orders(List<Integer> came, int p, int d, int[] sum) {
        int n = city.partners().size();
        if (came.size() == n) {
            sum[1]++;
            Set<Integer> ahead = new HashSet<>(came.subList(0, came.indexOf(p)));
            int before = value(ahead, d);
            ahead.add(p);
            sum[0] += value(ahead, d) - before;
            return;
        }
        for (int next = 0; next < n; next++) {
            if (!came.contains(next)) {
                List<Integer> longer = new ArrayList<>(came);
                longer.add(next);
                orders(longer, p, d, sum);
            }
        }
    }

    private static int lowest(BigInteger above, BigInteger below, int what) {
        BigInteger g = above.gcd(below);
        return (what == 0 ? above : below).divide(g).intValueExact();
    }

    int share(int p, int d, int what) {
        if (noPartner(p) || noDoor(d) || notEither(what)) {
            return -2;
        }
        int[] sum = new int[2];
        orders(new ArrayList<>(), p, d, sum);
        return lowest(BigInteger.valueOf(sum[0]), BigInteger.valueOf(sum[1]), what);
    }

    private int refusedGifts(int slot, int d) {
        if (slot < 0 || slot > 3 || noDoor(d)) {
            return -2;
        }
        if (rows[slot] == null) {
            return -6;
        }
        return rows[slot].length == city.partners().size() ? 0 : -2;
    }

    private BigInteger given(int slot, Set<Integer> who) {
        BigInteger sum = BigInteger.ZERO;
        for (int p : who) {
            sum = sum.add(BigInteger.valueOf(rows[slot][p]));
        }
        return sum;
    }

    int fair(int slot, int d) {
        if (refusedGifts(slot, d) != 0) {
            return refusedGifts(slot, d);
        }
        Set<Integer> all = members(subsets() - 1);
        return leave(slot, d) == NONE && given(slot, all).equals(BigInteger.valueOf(value(all, d))) ? 1 : 0;
    }

    int leave(int slot, int d) {
        if (refusedGifts(slot, d) != 0) {
            return refusedGifts(slot, d);
        }
        for (int set = 0; set < subsets(); set++) {
            if (given(slot, members(set)).compareTo(BigInteger.valueOf(value(members(set), d))) < 0) {
                return set;
            }
        }
        return NONE;
    }

    // ------------------------------------------------------------------ snips and guards

    private List<Integer> partingCuts(int p, int o) {
        List<Integer> cuts = new ArrayList<>();
        int held = holds(0);
        for (int cut = 0; cut < 1 << city.joins().size(); cut++) {
            Guess guess = asNow();
            guess.falseJoins = members(cut);
            if ((cut & ~held) == 0 && !live(guess).get(0).firmOf(p).contains(o)) {
                cuts.add(cut);
            }
        }
        return cuts;
    }

    int snips(int p, int o) {
        return noPair(p, o) ? -2 : partingCuts(p, o).stream().mapToInt(Integer::bitCount).min().orElse(NONE);
    }

    int snipped(int p, int o) {
        if (noPair(p, o)) {
            return -2;
        }
        int fewest = snips(p, o);
        return partingCuts(p, o).stream().filter(c -> Integer.bitCount(c) == fewest).mapToInt(c -> c).min()
                .orElse(NONE);
    }

    int wax(int p, int o) {
        return noPair(p, o) ? -2 : partingCuts(p, o).stream()
                .mapToInt(c -> members(c).stream().mapToInt(j -> city.joins().get(j).wax()).sum()).min()
                .orElse(NONE);
    }

    private List<Integer> keepers(int p) {
        List<Integer> found = new ArrayList<>();
        for (int set = 0; set < subsets(); set++) {
            Guess guess = asNow();
            guess.kept = members(set);
            if (!guess.kept.contains(p) && live(guess).stream().noneMatch(y -> y.sick.contains(p))) {
                found.add(set);
            }
        }
        return found;
    }

    int guards(int p) {
        return noPartner(p) ? -2 : keepers(p).stream().mapToInt(Integer::bitCount).min().orElse(NONE);
    }

    int guarded(int p) {
        if (noPartner(p)) {
            return -2;
        }
        int fewest = guards(p);
        return keepers(p).stream().filter(s -> Integer.bitCount(s) == fewest).mapToInt(s -> s).min().orElse(NONE);
    }

    int sneezer() {
        if (city == null) {
            return -2;
        }
        int found = NONE;
        int most = -1;
        for (int p = 0; p < city.partners().size(); p++) {
            Guess guess = asNow();
            guess.sneezers.add(p);
            Set<Integer> ever = new HashSet<>();
            live(guess).forEach(y -> ever.addAll(y.sick));
            if (ever.size() > most) {
                most = ever.size();
                found = p;
            }
        }
        return found;
    }

    // ------------------------------------------------------------------ gum

    private int refusedSightings(int slot) {
        if (slot < 0 || slot > 3 || city == null) {
            return -2;
        }
        long[] row = rows[slot];
        if (row == null) {
            return -6;
        }
        if (row.length % 3 != 0) {
            return -2;
        }
        long[] ends = {city.partners().size(), city.doors().size(), 2};
        for (int i = 0; i < row.length; i++) {
            if (row[i] < 0 || row[i] >= ends[i % 3]) {
                return -2;
            }
        }
        return 0;
    }

    private Year actsAside(Set<Integer> falseJoins) {
        Guess guess = new Guess();
        guess.falseJoins = falseJoins;
        return live(guess).get(0);
    }

    private boolean agrees(long[] row, Year now, int law) {
        for (int i = 0; i < row.length; i += 3) {
            if (goes(now, (int) row[i], (int) row[i + 1], law) != (row[i + 2] == 1)) {
                return false;
            }
        }
        return true;
    }

    private List<Integer> trueSets(int slot) {
        List<Integer> found = new ArrayList<>();
        int all = (1 << city.joins().size()) - 1;
        for (int set = 0; set <= all; set++) {
            if (agrees(rows[slot], actsAside(members(all - set)), city.law())) {
                found.add(set);
            }
        }
        return found;
    }

    int trues(int slot) {
        return refusedSightings(slot) != 0 ? refusedSightings(slot) : trueSets(slot).size();
    }

    int surely(int slot) {
        if (refusedSightings(slot) != 0) {
            return refusedSightings(slot);
        }
        return trueSets(slot).stream().reduce((a, b) -> a & b).orElse(NONE);
    }

    int never(int slot) {
        if (refusedSightings(slot) != 0) {
            return refusedSightings(slot);
        }
        int all = (1 << city.joins().size()) - 1;
        return trueSets(slot).stream().map(s -> all - s).reduce((a, b) -> a & b).orElse(NONE);
    }

    private int[] question(int slot) {
        List<Integer> sets = trueSets(slot);
        int all = (1 << city.joins().size()) - 1;
        int[] best = {NONE, sets.size()};
        List<Year> years = sets.stream().map(s -> actsAside(members(all - s))).toList();
        for (int p = 0; p < city.partners().size(); p++) {
            for (int d = 0; d < city.doors().size(); d++) {
                final int who = p;
                final int where = d;
                int yes = (int) years.stream().filter(y -> goes(y, who, where, city.law())).count();
                int worst = Math.max(yes, sets.size() - yes);
                if (worst < best[1]) {
                    best = new int[] {p * 10 + d, worst};
                }
            }
        }
        return best;
    }

    int ask(int slot) {
        return refusedSightings(slot) != 0 ? refusedSightings(slot) : question(slot)[0];
    }

    int leaves(int slot) {
        return refusedSightings(slot) != 0 ? refusedSightings(slot) : question(slot)[1];
    }

    int laws(int slot) {
        if (refusedSightings(slot) != 0) {
            return refusedSightings(slot);
        }
        int found = 0;
        for (int law = 0; law < 4; law++) {
            found |= agrees(rows[slot], actsAside(Set.of()), law) ? 1 << law : 0;
        }
        return found;
    }

    int by(int d, int law) {
        if (noDoor(d) || law < 0 || law > 3) {
            return -2;
        }
        Year now = year(0);
        return (int) now.firms.stream().filter(f -> goes(now, f.iterator().next(), d, law)).count();
    }

    // ------------------------------------------------------------------ game

    int gets(int p, int o, int shaves, int otherShaves) {
        if (noPair(p, o) || notEither(shaves) || notEither(otherShaves)) {
            return -10000;
        }
        Guess guess = asNow();
        if (shaves == 1) {
            guess.shaved.add(p);
        }
        if (otherShaves == 1) {
            guess.shaved.add(o);
        }
        return live(guess).get(city.years() - 1).worth[p] - 3 * shaves;
    }

    int rests(int p, int o) {
        if (noPair(p, o)) {
            return -2;
        }
        int found = 0;
        for (int s = 0; s < 2; s++) {
            for (int t = 0; t < 2; t++) {
                if (gets(p, o, s, t) >= gets(p, o, 1 - s, t) && gets(o, p, t, s) >= gets(o, p, 1 - t, s)) {
                    found |= 1 << s + 2 * t;
                }
            }
        }
        return found;
    }

    int when(int p, int o) {
        if (noPair(p, o)) {
            return -2;
        }
        int last = city.years() - 1;
        int found = NONE;
        int most = year(last).worth[p] + year(last).worth[o];
        for (int y = 0; y <= last; y++) {
            Guess guess = asNow();
            guess.acts.add(new Act(true, p, o, y, 9));
            Year then = live(guess).get(last);
            if (then.worth[p] + then.worth[o] > most) {
                most = then.worth[p] + then.worth[o];
                found = y;
            }
        }
        return found;
    }

    // ------------------------------------------------------------------ chance

    interface Measure {
        int of(Year now);
    }

    private int expected(Measure measure, int what) {
        BigInteger above = BigInteger.ZERO;
        int joins = city.joins().size();
        for (int set = 0; set < 1 << joins; set++) {
            Guess guess = asNow();
            guess.falseJoins = members(set);
            int n = guess.falseJoins.size();
            BigInteger weight = BigInteger.valueOf(city.odds()).pow(n)
                    .multiply(BigInteger.valueOf(10 - city.odds()).pow(joins - n));
            above = above.add(weight.multiply(BigInteger.valueOf(measure.of(live(guess).get(0)))));
        }
        return lowest(above, BigInteger.TEN.pow(joins), what);
    }

    int chance(int p, int o, int what) {
        return noPair(p, o) || notEither(what) ? -2 : expected(y -> y.firmOf(p).contains(o) ? 1 : 0, what);
    }

    int through(int p, int d, int what) {
        return noPartner(p) || noDoor(d) || notEither(what) ? -2
                : expected(y -> goes(y, p, d, city.law()) ? 1 : 0, what);
    }

    int mean(int what) {
        return city == null || notEither(what) ? -2 : expected(y -> y.firms.size(), what);
    }

    // ------------------------------------------------------------------ acts

    int weld(int p, int o, int y, int wax) {
        if (noPair(p, o) || noYear(y) || wax < 1 || wax > 9) {
            return -2;
        }
        if (acts.size() == 30) {
            return -5;
        }
        acts.add(new Act(true, p, o, y, wax));
        return tied(p, o, y);
    }

    int snip(int p, int o, int y) {
        if (noPair(p, o) || noYear(y)) {
            return -2;
        }
        if (acts.size() == 30) {
            return -5;
        }
        int were = tied(p, o, y);
        acts.add(new Act(false, p, o, y, 0));
        return were;
    }

    int undo() {
        if (city == null || acts.isEmpty()) {
            return city == null ? -2 : -5;
        }
        acts.remove(acts.size() - 1);
        return acts.size();
    }

    int anew() {
        if (city == null) {
            return -2;
        }
        int were = acts.size();
        acts.clear();
        return were;
    }

    private Set<Integer> falseBy(int seed) {
        Set<Integer> found = new HashSet<>();
        BigInteger x = BigInteger.valueOf(seed);
        for (int j = 0; j < city.joins().size(); j++) {
            x = x.multiply(BigInteger.valueOf(1103515245)).add(BigInteger.valueOf(12345))
                    .mod(BigInteger.valueOf(2147483648L));
            if (x.intValueExact() / 65536 % 10 < city.odds()) {
                found.add(j);
            }
        }
        return found;
    }

    private Set<Integer> outAtLast(int seed) {
        Guess guess = asNow();
        guess.falseJoins = falseBy(seed);
        return live(guess).get(city.years() - 1).out;
    }

    int drawn(int seed, int what) {
        if (city == null || seed < 0 || seed > 2000000000 || notEither(what)) {
            return -2;
        }
        return bits(what == 0 ? outAtLast(seed) : falseBy(seed));
    }

    int luck(int seed, int n, int p) {
        if (noPartner(p) || seed < 0 || seed > 2000000000 || n < 1 || n > 20) {
            return -2;
        }
        int found = 0;
        for (int i = 0; i < n; i++) {
            found += outAtLast(seed + i).contains(p) ? 1 : 0;
        }
        return found;
    }

    int rate(int n) {
        if (city == null || n < 0 || n > 20) {
            return -2;
        }
        if (!acts.isEmpty()) {
            return -5;
        }
        int was = city.slump();
        city = new City(city.lines(), city.years(), city.law(), n, city.odds(), city.partners(), city.joins(),
                city.doors(), city.colds());
        return was;
    }

    int count(int what) {
        int kept = 0;
        for (long[] row : rows) {
            kept += row == null ? 0 : 1;
        }
        if (what == 10 || what == 11) {
            return what == 10 ? tape.length : kept;
        }
        if (what < 0 || what > 11) {
            return NONE;
        }
        return city == null ? 0 : new int[] {city.years(), city.law(), city.slump(), city.odds(),
            city.partners().size(), city.joins().size(), city.doors().size(), city.colds().size(), acts.size(),
            city.lines()}[what];
    }

    int image(int k) {
        if (k < 0 || k > 2) {
            return -2;
        }
        keptCity[k] = city;
        keptActs.set(k, new ArrayList<>(acts));
        return 0;
    }

    int back(int k) {
        if (k < 0 || k > 2) {
            return -2;
        }
        if (keptActs.get(k) == null) {
            return -6;
        }
        city = keptCity[k];
        acts = new ArrayList<>(keptActs.get(k));
        return 0;
    }

    // ------------------------------------------------------------------ rows

    int row(int slot, int width, int n) {
        if (slot < 0 || slot > 3 || width < 0 || width > 3 || n > 60) {
            return -2;
        }
        if (n < 0) {
            return -3;
        }
        rows[slot] = new long[n];
        rowWidths[slot] = width;
        return 0;
    }

    int write(int slot, int i, long v) {
        if (slot < 0 || slot > 3) {
            return -2;
        }
        if (rows[slot] == null) {
            return -6;
        }
        if (i < 0 || i >= rows[slot].length) {
            return -7;
        }
        int unused = 64 - (8 << rowWidths[slot]);
        rows[slot][i] = v << unused >> unused;
        return 0;
    }

    int paste(int slot, int i, int to, int k, int n) {
        if (slot < 0 || slot > 3 || to < 0 || to > 3) {
            return -2;
        }
        if (rows[slot] == null || rows[to] == null) {
            return -6;
        }
        if (rowWidths[slot] != rowWidths[to]) {
            return -8;
        }
        if (i < 0 || k < 0 || n < 0 || (long) i + n > rows[slot].length || (long) k + n > rows[to].length) {
            return -7;
        }
        long[] were = rows[slot].clone();
        for (int m = 0; m < n; m++) {
            rows[to][k + m] = were[i + m];
        }
        return 0;
    }
}
