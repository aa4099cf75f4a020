/**
 * A city of partners who are joined by wax, read from a text.
 *
 * <p>The public methods look at what they are given and tell the answers; the classes inside hold
 * the state and reckon. Everything is made once, in the constructors, and used again, because what
 * a run makes is counted.
 */
public final class WaxedPartners {
    public static final int NONE = -1;

    private static final int NO_SUCH = -2;
    private static final int BELOW_NOTHING = -3;
    private static final int FAULTY = -4;
    private static final int NOT_NOW = -5;
    private static final int NOTHING = -6;
    private static final int BEYOND = -7;
    private static final int OTHER_WIDTH = -8;
    private static final int NO_WORTH = -10000;

    private static final int MOST_BYTES = 800;
    private static final int FED_AT_ONCE = 20;
    private static final int MOST_YEARS = 12;
    private static final int MOST_PARTNERS = 6;
    private static final int MOST_JOINS = 7;
    private static final int MOST_DOORS = 5;
    private static final int MOST_COLDS = 5;
    private static final int MOST_ACTS = 30;
    private static final int MOST_WAX = 9;
    private static final int MOST_SLUMP = 20;
    private static final int MOST_ODDS = 10;
    private static final int MOST_NUMBERS = 60;
    private static final int SLOTS = 4;
    private static final int WIDTHS = 4;
    private static final int IMAGES = 3;
    private static final int LAWS = 4;
    private static final int GREATEST_SEED = 2000000000;
    private static final int MOST_DECADES = 20;
    private static final int PRICE_OF_A_SHAVE = 3;

    private static final int ONE_FIRM = 0;
    private static final int FIRM_GOES_THROUGH = 1;
    private static final int FIRM_COUNT = 2;

    private static final int[] FACTORIALS = {1, 1, 2, 6, 24, 120, 720};

    private final Reader reader;
    private final Numbers[] slots;
    private final Town[] images;
    private final Decade decade;
    private final Crowd crowd;
    private final Gum gum;
    private Town town;
    private int imagesKept;

    public WaxedPartners() {
        reader = new Reader();
        slots = new Numbers[SLOTS];
        for (int slot = 0; slot < slots.length; slot++) {
            slots[slot] = new Numbers();
        }
        images = new Town[IMAGES];
        for (int k = 0; k < images.length; k++) {
            images[k] = new Town();
        }
        decade = new Decade();
        crowd = new Crowd();
        gum = new Gum();
        town = new Town();
    }

    // ---------------------------------------------------------------- the text

    public int feed(int a, int b, int c, int d, int e) {
        Tape tape = reader.tape;
        if (tape.size > MOST_BYTES - FED_AT_ONCE) {
            return NONE;
        }
        tape.put(a);
        tape.put(b);
        tape.put(c);
        tape.put(d);
        tape.put(e);
        return tape.size;
    }

    public int end(int n) {
        if (n < 0 || n > reader.tape.size) {
            return NONE;
        }
        reader.tape.size = n;
        return n;
    }

    public int city() {
        boolean faultless = reader.readTape();
        reader.tape.size = 0;
        if (!faultless) {
            return FAULTY;
        }
        Town left = town;
        town = reader.town;
        reader.town = left;
        return town.lines;
    }

    public int fault(int what) {
        switch (what) {
            case 0:
                return reader.fault;
            case 1:
                return reader.faultPlace;
            default:
                return NONE;
        }
    }

    public int partner(int partner, int what) {
        if (!town.hasPartner(partner)) {
            return NO_SUCH;
        }
        switch (what) {
            case 0:
                return town.wides[partner];
            case 1:
                return town.worths[partner];
            case 2:
                return town.gains[partner];
            default:
                return NO_SUCH;
        }
    }

    public int join(int join, int what) {
        if (!town.hasJoin(join)) {
            return NO_SUCH;
        }
        switch (what) {
            case 0:
                return town.firsts[join];
            case 1:
                return town.seconds[join];
            case 2:
                return town.waxes[join];
            default:
                return NO_SUCH;
        }
    }

    public int door(int door) {
        return town.hasDoor(door) ? town.doorWides[door] : NO_SUCH;
    }

    // ---------------------------------------------------------------- year by year

    public int holds(int year) {
        if (!town.hasYear(year)) {
            return NO_SUCH;
        }
        liveAsNow();
        return decade.helds[year];
    }

    public int tied(int partner, int other, int year) {
        if (!town.hasPair(partner, other) || !town.hasYear(year)) {
            return NO_SUCH;
        }
        liveAsNow();
        return decade.areTied(partner, other, year) ? 1 : 0;
    }

    public int firm(int partner, int year) {
        if (!town.hasPartner(partner) || !town.hasYear(year)) {
            return NO_SUCH;
        }
        liveAsNow();
        return decade.firmSets[year][partner];
    }

    public int firms(int year) {
        if (!town.hasYear(year)) {
            return NO_SUCH;
        }
        liveAsNow();
        return decade.firmCount(town, year);
    }

    public int wide(int partner, int year) {
        if (!town.hasPartner(partner) || !town.hasYear(year)) {
            return NO_SUCH;
        }
        liveAsNow();
        return decade.firmWidth(town, year, partner, town.law);
    }

    public int passes(int partner, int year) {
        if (!town.hasPartner(partner) || !town.hasYear(year)) {
            return NO_SUCH;
        }
        liveAsNow();
        return decade.doorsOf(town, year, partner, town.law);
    }

    public int largest(int year) {
        if (!town.hasYear(year)) {
            return NO_SUCH;
        }
        liveAsNow();
        int most = 0;
        for (int p = 0; p < town.partners; p++) {
            most = Math.max(most, Integer.bitCount(decade.firmSets[year][p]));
        }
        return most;
    }

    public int hairs(int partner, int other, int year) {
        if (!town.hasPartner(partner) || !town.hasPartner(other) || !town.hasYear(year)) {
            return NO_SUCH;
        }
        liveAsNow();
        return decade.distance(partner, other, year);
    }

    public int colds(int year) {
        if (!town.hasYear(year)) {
            return NO_SUCH;
        }
        liveAsNow();
        return decade.sicks[year];
    }

    public int cold(int partner) {
        if (!town.hasPartner(partner)) {
            return NO_SUCH;
        }
        liveAsNow();
        return firstYearWith(decade.sicks, partner);
    }

    public int worth(int partner, int year) {
        if (!town.hasPartner(partner) || !town.hasYear(year)) {
            return NO_WORTH;
        }
        liveAsNow();
        return decade.worths[year][partner];
    }

    public int funds(int partner, int year) {
        if (!town.hasPartner(partner) || !town.hasYear(year)) {
            return NO_WORTH;
        }
        liveAsNow();
        int firm = decade.firmSets[year][partner];
        return firm == 0 ? NO_WORTH : decade.worthOf(firm, year);
    }

    public int out(int year) {
        if (!town.hasYear(year)) {
            return NO_SUCH;
        }
        liveAsNow();
        return decade.outs[year];
    }

    public int fails(int partner) {
        if (!town.hasPartner(partner)) {
            return NO_SUCH;
        }
        liveAsNow();
        return firstYearWith(decade.outs, partner);
    }

    public int richest(int year) {
        if (!town.hasYear(year)) {
            return NO_SUCH;
        }
        liveAsNow();
        int found = NONE;
        int most = 0;
        for (int p = 0; p < town.partners; p++) {
            int firm = decade.firmSets[year][p];
            int together = decade.worthOf(firm, year);
            if (firm != 0 && (found == NONE || together > most)) {
                found = p;
                most = together;
            }
        }
        return found;
    }

    public int parts(int join) {
        if (!town.hasJoin(join)) {
            return NO_SUCH;
        }
        liveAsNow();
        for (int year = 0; year < town.years; year++) {
            if (!has(decade.helds[year], join)) {
                return year;
            }
        }
        return NONE;
    }

    public int merger() {
        if (!town.isTold()) {
            return NO_SUCH;
        }
        if (town.partners == 0) {
            return NONE;
        }
        liveAsNow();
        for (int year = 0; year < town.years; year++) {
            if (decade.firmSets[year][0] == allOf(town.partners)) {
                return year;
            }
        }
        return NONE;
    }

    public int apart(int partner, int other) {
        if (!town.hasPair(partner, other)) {
            return NO_SUCH;
        }
        liveAsNow();
        for (int year = 0; year < town.years; year++) {
            if (!has(decade.firmSets[year][partner], other)) {
                return year;
            }
        }
        return NONE;
    }

    public int singles(int year) {
        if (!town.hasYear(year)) {
            return NO_SUCH;
        }
        liveAsNow();
        int alone = 0;
        for (int p = 0; p < town.partners; p++) {
            if (decade.firmSets[year][p] == 1 << p) {
                alone |= 1 << p;
            }
        }
        return alone;
    }

    public int total(int year) {
        if (!town.hasYear(year)) {
            return NO_WORTH;
        }
        liveAsNow();
        return decade.worthOf(allOf(town.partners) & ~decade.outs[year], year);
    }

    // ---------------------------------------------------------------- sets at a door

    public int best(int door) {
        if (!town.hasDoor(door)) {
            return NO_SUCH;
        }
        return town.toldWorth(Crowd.bestSet(town, door));
    }

    public int bests(int door) {
        if (!town.hasDoor(door)) {
            return NO_SUCH;
        }
        return Crowd.bestSet(town, door);
    }

    public int sets(int door) {
        if (!town.hasDoor(door)) {
            return NO_SUCH;
        }
        crowd.part(town, door);
        return crowd.fewest[allOf(town.partners)];
    }

    public int ways(int door) {
        if (!town.hasDoor(door)) {
            return NO_SUCH;
        }
        crowd.part(town, door);
        int all = allOf(town.partners);
        return crowd.fewest[all] == NONE ? NONE : crowd.wayCounts[all];
    }

    public int share(int partner, int door, int what) {
        if (!town.hasPartner(partner) || !town.hasDoor(door) || !isEither(what)) {
            return NO_SUCH;
        }
        int orders = FACTORIALS[town.partners];
        return lowest(Crowd.gainOverOrders(town, partner, door), orders, what);
    }

    public int fair(int slot, int door) {
        Numbers row = slotAt(slot);
        int refusal = refusalOfGifts(row, door);
        if (row == null || refusal != 0) {
            return refusal;
        }
        int all = allOf(town.partners);
        boolean givesAll = row.compareTogether(all, Crowd.setWorth(town, all, door)) == 0;
        return givesAll && Crowd.firstLeaver(town, door, row) == NONE ? 1 : 0;
    }

    public int leave(int slot, int door) {
        Numbers row = slotAt(slot);
        int refusal = refusalOfGifts(row, door);
        if (row == null || refusal != 0) {
            return refusal;
        }
        return Crowd.firstLeaver(town, door, row);
    }

    // ---------------------------------------------------------------- snips and guards

    public int snips(int partner, int other) {
        if (!town.hasPair(partner, other)) {
            return NO_SUCH;
        }
        int cut = fewestCut(partner, other);
        return cut == NONE ? NONE : Integer.bitCount(cut);
    }

    public int snipped(int partner, int other) {
        if (!town.hasPair(partner, other)) {
            return NO_SUCH;
        }
        return fewestCut(partner, other);
    }

    public int wax(int partner, int other) {
        if (!town.hasPair(partner, other)) {
            return NO_SUCH;
        }
        int least = NONE;
        for (int cut = 0; cut < 1 << town.joins; cut++) {
            int together = town.waxOf(cut);
            if ((least == NONE || together < least) && cutsApart(cut, partner, other)) {
                least = together;
            }
        }
        return least;
    }

    public int guards(int partner) {
        if (!town.hasPartner(partner)) {
            return NO_SUCH;
        }
        int kept = fewestGuards(partner);
        return kept == NONE ? NONE : Integer.bitCount(kept);
    }

    public int guarded(int partner) {
        if (!town.hasPartner(partner)) {
            return NO_SUCH;
        }
        return fewestGuards(partner);
    }

    public int sneezer() {
        if (!town.isTold()) {
            return NO_SUCH;
        }
        int found = NONE;
        int most = 0;
        for (int p = 0; p < town.partners; p++) {
            decade.supposeNothing();
            decade.sickBesides = 1 << p;
            decade.live(town, town.years);
            int having = Integer.bitCount(decade.everSick);
            if (found == NONE || having > most) {
                found = p;
                most = having;
            }
        }
        return found;
    }

    // ---------------------------------------------------------------- gum

    public int trues(int slot) {
        int refusal = chew(slot);
        return refusal != 0 ? refusal : gum.setCount;
    }

    public int surely(int slot) {
        int refusal = chew(slot);
        if (refusal != 0) {
            return refusal;
        }
        return gum.setCount == 0 ? NONE : gum.inAll;
    }

    public int never(int slot) {
        int refusal = chew(slot);
        if (refusal != 0) {
            return refusal;
        }
        return gum.setCount == 0 ? NONE : allOf(town.joins) & ~gum.inAny;
    }

    public int ask(int slot) {
        int refusal = chew(slot);
        return refusal != 0 ? refusal : gum.bestQuestion(town);
    }

    public int leaves(int slot) {
        int refusal = chew(slot);
        return refusal != 0 ? refusal : gum.leftAtWorst(gum.bestQuestion(town));
    }

    public int laws(int slot) {
        Numbers row = slotAt(slot);
        int refusal = refusalOfSightings(row);
        if (row == null || refusal != 0) {
            return refusal;
        }
        decade.supposeNothing();
        decade.actsAside = true;
        decade.live(town, 1);
        int lawful = 0;
        for (int law = 0; law < LAWS; law++) {
            if (Gum.agrees(town, decade, row, law)) {
                lawful |= 1 << law;
            }
        }
        return lawful;
    }

    public int by(int door, int law) {
        if (!town.hasDoor(door) || law < 0 || law >= LAWS) {
            return NO_SUCH;
        }
        liveAsNow();
        int through = 0;
        for (int p = 0; p < town.partners; p++) {
            if (decade.isFirstOfFirm(p, 0) && has(decade.doorsOf(town, 0, p, law), door)) {
                through++;
            }
        }
        return through;
    }

    // ---------------------------------------------------------------- two who shave

    public int rests(int partner, int other) {
        if (!town.hasPair(partner, other)) {
            return NO_SUCH;
        }
        int resting = 0;
        for (int choices = 0; choices < 4; choices++) {
            int shaves = choices & 1;
            int otherShaves = choices >> 1;
            boolean partnerRests = payOf(partner, other, shaves, otherShaves)
                    >= payOf(partner, other, 1 - shaves, otherShaves);
            boolean otherRests = payOf(other, partner, otherShaves, shaves)
                    >= payOf(other, partner, 1 - otherShaves, shaves);
            if (partnerRests && otherRests) {
                resting |= 1 << choices;
            }
        }
        return resting;
    }

    public int gets(int partner, int other, int shaves, int otherShaves) {
        if (!town.hasPair(partner, other) || !isEither(shaves) || !isEither(otherShaves)) {
            return NO_WORTH;
        }
        return payOf(partner, other, shaves, otherShaves);
    }

    public int when(int partner, int other) {
        if (!town.hasPair(partner, other)) {
            return NO_SUCH;
        }
        int found = NONE;
        int most = lastWorthOfBoth(partner, other);
        for (int year = 0; year < town.years; year++) {
            town.acts.add(partner, other, year, MOST_WAX);
            int together = lastWorthOfBoth(partner, other);
            town.acts.takeBack();
            if (together > most) {
                found = year;
                most = together;
            }
        }
        return found;
    }

    // ---------------------------------------------------------------- chance

    public int chance(int partner, int other, int what) {
        if (!town.hasPair(partner, other) || !isEither(what)) {
            return NO_SUCH;
        }
        return meanOf(ONE_FIRM, partner, other, what);
    }

    public int through(int partner, int door, int what) {
        if (!town.hasPartner(partner) || !town.hasDoor(door) || !isEither(what)) {
            return NO_SUCH;
        }
        return meanOf(FIRM_GOES_THROUGH, partner, door, what);
    }

    public int mean(int what) {
        if (!town.isTold() || !isEither(what)) {
            return NO_SUCH;
        }
        return meanOf(FIRM_COUNT, 0, 0, what);
    }

    // ---------------------------------------------------------------- acts

    public int weld(int partner, int other, int year, int wax) {
        boolean waxed = wax >= 1 && wax <= MOST_WAX;
        if (!town.hasPair(partner, other) || !town.hasYear(year) || !waxed) {
            return NO_SUCH;
        }
        if (town.acts.given >= MOST_ACTS) {
            return NOT_NOW;
        }
        town.acts.add(partner, other, year, wax);
        liveAsNow();
        return decade.areTied(partner, other, year) ? 1 : 0;
    }

    public int snip(int partner, int other, int year) {
        if (!town.hasPair(partner, other) || !town.hasYear(year)) {
            return NO_SUCH;
        }
        if (town.acts.given >= MOST_ACTS) {
            return NOT_NOW;
        }
        liveAsNow();
        town.acts.add(partner, other, year, Acts.A_SNIP);
        return decade.areTied(partner, other, year) ? 1 : 0;
    }

    public int undo() {
        if (!town.isTold()) {
            return NO_SUCH;
        }
        if (town.acts.given == 0) {
            return NOT_NOW;
        }
        town.acts.takeBack();
        return town.acts.given;
    }

    public int anew() {
        if (!town.isTold()) {
            return NO_SUCH;
        }
        int were = town.acts.given;
        town.acts.given = 0;
        return were;
    }

    // ---------------------------------------------------------------- decades drawn

    public int drawn(int seed, int what) {
        if (!town.isTold() || !isSeed(seed) || !isEither(what)) {
            return NO_SUCH;
        }
        int falseJoins = drawFalseJoins(seed);
        return what == 1 ? falseJoins : outAtLast(falseJoins);
    }

    public int luck(int seed, int n, int partner) {
        if (!town.hasPartner(partner) || !isSeed(seed) || n < 1 || n > MOST_DECADES) {
            return NO_SUCH;
        }
        int unlucky = 0;
        for (int i = 0; i < n; i++) {
            if (has(outAtLast(drawFalseJoins(seed + i)), partner)) {
                unlucky++;
            }
        }
        return unlucky;
    }

    public int rate(int n) {
        if (!town.isTold() || n < 0 || n > MOST_SLUMP) {
            return NO_SUCH;
        }
        if (town.acts.given > 0) {
            return NOT_NOW;
        }
        int was = town.slump;
        town.slump = n;
        return was;
    }

    public int count(int what) {
        switch (what) {
            case 0:
                return town.years;
            case 1:
                return town.law;
            case 2:
                return town.slump;
            case 3:
                return town.odds;
            case 4:
                return town.partners;
            case 5:
                return town.joins;
            case 6:
                return town.doors;
            case 7:
                return town.colds;
            case 8:
                return town.acts.given;
            case 9:
                return town.lines;
            case 10:
                return reader.tape.size;
            case 11:
                return rowCount();
            default:
                return NONE;
        }
    }

    // ---------------------------------------------------------------- images

    public int image(int k) {
        if (k < 0 || k >= images.length) {
            return NO_SUCH;
        }
        images[k].copyFrom(town);
        imagesKept |= 1 << k;
        return 0;
    }

    public int back(int k) {
        if (k < 0 || k >= images.length) {
            return NO_SUCH;
        }
        if (!has(imagesKept, k)) {
            return NOTHING;
        }
        town.copyFrom(images[k]);
        return 0;
    }

    // ---------------------------------------------------------------- rows

    public int row(int slot, int width, int n) {
        Numbers row = slotAt(slot);
        if (row == null || width < 0 || width >= WIDTHS || n > MOST_NUMBERS) {
            return NO_SUCH;
        }
        if (n < 0) {
            return BELOW_NOTHING;
        }
        row.begin(width, n);
        return 0;
    }

    public int write(int slot, int i, long v) {
        Numbers row = slotAt(slot);
        if (row == null) {
            return NO_SUCH;
        }
        if (!row.isThere()) {
            return NOTHING;
        }
        if (i < 0 || i >= row.size) {
            return BEYOND;
        }
        row.put(i, v);
        return 0;
    }

    public int paste(int slot, int i, int to, int k, int n) {
        Numbers source = slotAt(slot);
        Numbers target = slotAt(to);
        if (source == null || target == null) {
            return NO_SUCH;
        }
        if (!source.isThere() || !target.isThere()) {
            return NOTHING;
        }
        if (source.width != target.width) {
            return OTHER_WIDTH;
        }
        if (!source.reaches(i, n) || !target.reaches(k, n)) {
            return BEYOND;
        }
        System.arraycopy(source.values, i, target.values, k, n);
        return 0;
    }

    // ---------------------------------------------------------------- what the face shares

    private static boolean has(int bits, int bit) {
        return (bits >> bit & 1) != 0;
    }

    private static int allOf(int howMany) {
        return (1 << howMany) - 1;
    }

    private static boolean isEither(int choice) {
        return choice == 0 || choice == 1;
    }

    private static boolean isSeed(int seed) {
        return seed >= 0 && seed <= GREATEST_SEED;
    }

    private Numbers slotAt(int slot) {
        return slot >= 0 && slot < slots.length ? slots[slot] : null;
    }

    private int rowCount() {
        int rows = 0;
        for (int slot = 0; slot < slots.length; slot++) {
            if (slots[slot].isThere()) {
                rows++;
            }
        }
        return rows;
    }

    private void liveAsNow() {
        decade.supposeNothing();
        decade.live(town, town.years);
    }

    private int firstYearWith(int[] bitsByYear, int partner) {
        for (int year = 0; year < town.years && year < bitsByYear.length; year++) {
            if (has(bitsByYear[year], partner)) {
                return year;
            }
        }
        return NONE;
    }

    /** 0 if a row gives a number to each PARTNER at a DOOR, else the answer that refuses it. */
    private int refusalOfGifts(Numbers row, int door) {
        if (row == null || !town.hasDoor(door)) {
            return NO_SUCH;
        }
        if (!row.isThere()) {
            return NOTHING;
        }
        return row.size == town.partners ? 0 : NO_SUCH;
    }

    /** 0 if a row tells who went through which DOOR, else the answer that refuses it. */
    private int refusalOfSightings(Numbers row) {
        if (row == null || !town.isTold()) {
            return NO_SUCH;
        }
        if (!row.isThere()) {
            return NOTHING;
        }
        return Gum.canRead(town, row) ? 0 : NO_SUCH;
    }

    private int chew(int slot) {
        Numbers row = slotAt(slot);
        int refusal = refusalOfSightings(row);
        if (row != null && refusal == 0) {
            gum.countSets(town, decade, row);
        }
        return refusal;
    }

    private boolean cutsApart(int cut, int partner, int other) {
        decade.supposeNothing();
        decade.falseJoins = cut;
        decade.live(town, 1);
        return !has(decade.firmSets[0][partner], other);
    }

    /** The least of the smallest sets of told JOINS whose cut parts two PARTNERS. */
    private int fewestCut(int partner, int other) {
        int found = NONE;
        for (int cut = 0; cut < 1 << town.joins; cut++) {
            boolean fewer = found == NONE || Integer.bitCount(cut) < Integer.bitCount(found);
            if (fewer && cutsApart(cut, partner, other)) {
                found = cut;
            }
        }
        return found;
    }

    private boolean staysWell(int partner, int keptIn) {
        decade.supposeNothing();
        decade.keptIn = keptIn;
        decade.live(town, town.years);
        return !has(decade.everSick, partner);
    }

    private int fewestGuards(int partner) {
        int found = NONE;
        for (int kept = 0; kept < 1 << town.partners; kept++) {
            boolean fewer = found == NONE || Integer.bitCount(kept) < Integer.bitCount(found);
            if (fewer && !has(kept, partner) && staysWell(partner, kept)) {
                found = kept;
            }
        }
        return found;
    }

    private int lastWorth(int partner) {
        int last = town.years - 1;
        return town.hasYear(last) ? decade.worths[last][partner] : 0;
    }

    private int payOf(int partner, int other, int shaves, int otherShaves) {
        decade.supposeNothing();
        decade.shaved = shaves << partner | otherShaves << other;
        decade.live(town, town.years);
        return lastWorth(partner) - PRICE_OF_A_SHAVE * shaves;
    }

    private int lastWorthOfBoth(int partner, int other) {
        liveAsNow();
        return lastWorth(partner) + lastWorth(other);
    }

    /** How many of 10 to the number of told JOINS cases have just these false. */
    private long casesOf(int falseJoins) {
        long cases = 1;
        for (int j = 0; j < town.joins; j++) {
            cases *= has(falseJoins, j) ? town.odds : MOST_ODDS - town.odds;
        }
        return cases;
    }

    private int measure(int measured, int partner, int otherOrDoor) {
        switch (measured) {
            case ONE_FIRM:
                return has(decade.firmSets[0][partner], otherOrDoor) ? 1 : 0;
            case FIRM_GOES_THROUGH:
                return has(decade.doorsOf(town, 0, partner, town.law), otherOrDoor) ? 1 : 0;
            default:
                return decade.firmCount(town, 0);
        }
    }

    private int meanOf(int measured, int partner, int otherOrDoor, int what) {
        long above = 0;
        long below = 0;
        for (int falseJoins = 0; falseJoins < 1 << town.joins; falseJoins++) {
            long cases = casesOf(falseJoins);
            below += cases;
            if (cases > 0) {
                decade.supposeNothing();
                decade.falseJoins = falseJoins;
                decade.live(town, 1);
                above += cases * measure(measured, partner, otherOrDoor);
            }
        }
        return lowest(above, below, what);
    }

    private static long commonDivisor(long a, long b) {
        long greater = a;
        long lesser = b;
        for (int step = 0; step < 1000 && lesser != 0; step++) {
            long rest = greater % lesser;
            greater = lesser;
            lesser = rest;
        }
        return greater;
    }

    /** What stands above or below in a fraction's lowest terms. */
    private static int lowest(long above, long below, int what) {
        long divisor = commonDivisor(Math.abs(above), below);
        if (divisor == 0) {
            return what == 0 ? 0 : 1;
        }
        return (int) ((what == 0 ? above : below) / divisor);
    }

    private int drawFalseJoins(int seed) {
        int falseJoins = 0;
        long x = seed;
        for (int j = 0; j < town.joins; j++) {
            x = (1103515245L * x + 12345L) % 2147483648L;
            if (x / 65536L % 10L < town.odds) {
                falseJoins |= 1 << j;
            }
        }
        return falseJoins;
    }

    private int outAtLast(int falseJoins) {
        decade.supposeNothing();
        decade.falseJoins = falseJoins;
        decade.live(town, town.years);
        int last = town.years - 1;
        return town.hasYear(last) ? decade.outs[last] : 0;
    }

    // ---------------------------------------------------------------- the classes inside

    /** The bytes that were fed. */
    private static final class Tape {
        final byte[] bytes = new byte[MOST_BYTES];
        int size;

        void put(int number) {
            for (int shift = 24; shift >= 0; shift -= 8) {
                if (size >= 0 && size < bytes.length) {
                    bytes[size] = (byte) (number >> shift);
                    size++;
                }
            }
        }

        int at(int place) {
            boolean there = place >= 0 && place < size && place < bytes.length;
            return there ? bytes[place] & 255 : NONE;
        }
    }

    /** Reads the tape into a town of its own, so that a FAULT leaves the one in use as it is. */
    private static final class Reader {
        private static final int END = 0;
        private static final int WORD = 1;
        private static final int NUMBER = 2;
        private static final int SIGN = 3;
        private static final int ODD = 4;

        private static final int MISPLACED = 1;
        private static final int OUT_OF_BOUNDS = 2;
        private static final int TOO_MANY = 3;

        private static final int MOST_READ = 1000;

        final Tape tape = new Tape();
        Town town = new Town();
        int fault;
        int faultPlace = NONE;
        private int kind;
        private int start;
        private int stop;
        private int value;

        boolean readTape() {
            town.clear();
            fault = 0;
            faultPlace = NONE;
            stop = 0;
            advance();
            for (int line = 0; line < MOST_BYTES && kind != END && fault == 0; line++) {
                readLine();
            }
            return fault == 0;
        }

        private void readLine() {
            if (town.lines == 0) {
                readHead();
            } else if (isWord("partner")) {
                readPartner();
            } else if (isWord("join")) {
                readJoin();
            } else if (isWord("door")) {
                readDoor();
            } else if (isWord("cold")) {
                readCold();
            } else {
                refuse(MISPLACED);
            }
            expectSign();
            if (fault == 0) {
                town.lines++;
            }
        }

        private void readHead() {
            expectWord("city");
            expectWord("years");
            town.years = expectNumber(1, MOST_YEARS);
            expectWord("law");
            town.law = expectNumber(0, LAWS - 1);
            expectWord("slump");
            town.slump = expectNumber(0, MOST_SLUMP);
            expectWord("odds");
            town.odds = expectNumber(0, MOST_ODDS);
        }

        private void readPartner() {
            int p = town.partners;
            if (p >= MOST_PARTNERS) {
                refuse(TOO_MANY);
                return;
            }
            advance();
            expectWord("wide");
            town.wides[p] = expectNumber(1, 9);
            expectWord("worth");
            town.worths[p] = expectNumber(0, 99);
            expectWord("gains");
            town.gains[p] = expectNumber(0, 9);
            town.partners++;
        }

        private void readJoin() {
            int j = town.joins;
            if (j >= MOST_JOINS) {
                refuse(TOO_MANY);
                return;
            }
            advance();
            town.firsts[j] = expectNumber(0, town.partners - 1);
            if (kind == NUMBER && value == town.firsts[j]) {
                refuse(OUT_OF_BOUNDS);
            }
            town.seconds[j] = expectNumber(0, town.partners - 1);
            expectWord("wax");
            town.waxes[j] = expectNumber(1, MOST_WAX);
            town.joins++;
        }

        private void readDoor() {
            int d = town.doors;
            if (d >= MOST_DOORS) {
                refuse(TOO_MANY);
                return;
            }
            advance();
            town.doorWides[d] = expectNumber(1, 60);
            town.doors++;
        }

        private void readCold() {
            int c = town.colds;
            if (c >= MOST_COLDS) {
                refuse(TOO_MANY);
                return;
            }
            advance();
            town.sick[c] = expectNumber(0, town.partners - 1);
            expectWord("at");
            town.sickAt[c] = expectNumber(0, MOST_YEARS - 1);
            town.colds++;
        }

        /** Only the first FAULT counts: what is read behind it does not. */
        private void refuse(int why) {
            if (fault == 0) {
                fault = why;
                faultPlace = start;
            }
        }

        private void expectWord(String word) {
            if (!isWord(word)) {
                refuse(MISPLACED);
            }
            if (fault == 0) {
                advance();
            }
        }

        private int expectNumber(int least, int most) {
            if (kind != NUMBER) {
                refuse(MISPLACED);
            } else if (value < least || value > most) {
                refuse(OUT_OF_BOUNDS);
            }
            int read = value;
            if (fault != 0) {
                return 0;
            }
            advance();
            return read;
        }

        private void expectSign() {
            if (kind != SIGN) {
                refuse(MISPLACED);
            }
            if (fault == 0) {
                advance();
            }
        }

        private boolean isWord(String word) {
            if (kind != WORD || stop - start != word.length()) {
                return false;
            }
            for (int i = 0; i < word.length(); i++) {
                if (tape.at(start + i) != word.charAt(i)) {
                    return false;
                }
            }
            return true;
        }

        private void advance() {
            start = stop;
            while (start < tape.size && isBlank(tape.at(start))) {
                start++;
            }
            kind = kindOf(tape.at(start));
            value = 0;
            stop = kind == END ? start : start + 1;
            if (kind == WORD) {
                while (stop < tape.size && isLetter(tape.at(stop))) {
                    stop++;
                }
            }
            if (kind == NUMBER) {
                readDigits();
            }
        }

        private void readDigits() {
            value = tape.at(start) - '0';
            while (stop < tape.size && isDigit(tape.at(stop))) {
                // a number may be as long as the tape: beyond all bounds it grows no more
                value = Math.min(MOST_READ, value * 10 + tape.at(stop) - '0');
                stop++;
            }
        }

        private static int kindOf(int sign) {
            if (sign == NONE) {
                return END;
            }
            if (isLetter(sign)) {
                return WORD;
            }
            if (isDigit(sign)) {
                return NUMBER;
            }
            return sign == ';' ? SIGN : ODD;
        }

        private static boolean isBlank(int sign) {
            return sign == 32 || sign == 10;
        }

        private static boolean isLetter(int sign) {
            return sign >= 'a' && sign <= 'z';
        }

        private static boolean isDigit(int sign) {
            return sign >= '0' && sign <= '9';
        }
    }

    /** What was done to the JOINS since the town was told, in the order in which it was given. */
    private static final class Acts {
        static final int A_SNIP = 0;
        static final int NEVER = 1000;

        // one more than there may be, for the JOIN that when() only supposes
        final int[] firsts = new int[MOST_ACTS + 1];
        final int[] seconds = new int[MOST_ACTS + 1];
        final int[] years = new int[MOST_ACTS + 1];
        final int[] waxes = new int[MOST_ACTS + 1];
        int given;

        void add(int first, int second, int year, int wax) {
            if (given < 0 || given >= waxes.length) {
                return;
            }
            firsts[given] = first;
            seconds[given] = second;
            years[given] = year;
            waxes[given] = wax;
            given++;
        }

        void takeBack() {
            given = Math.max(0, given - 1);
        }

        /** The YEAR in which a JOIN is cut that came in a YEAR with an act (NONE: it was told). */
        int cutOf(int first, int second, int made, int act) {
            int cut = NEVER;
            for (int i = 0; i < given; i++) {
                boolean behind = years[i] > made || years[i] == made && i > act;
                if (waxes[i] == A_SNIP && behind && isOf(i, first, second)) {
                    cut = Math.min(cut, years[i]);
                }
            }
            return cut;
        }

        private boolean isOf(int i, int first, int second) {
            return firsts[i] == first && seconds[i] == second
                    || firsts[i] == second && seconds[i] == first;
        }

        void copyFrom(Acts other) {
            given = other.given;
            Town.copy(other.firsts, firsts);
            Town.copy(other.seconds, seconds);
            Town.copy(other.years, years);
            Town.copy(other.waxes, waxes);
        }
    }

    /** A CITY as told, with the acts since; without LINES there is none. */
    private static final class Town {
        int lines;
        int years;
        int law;
        int slump;
        int odds;
        int partners;
        int joins;
        int doors;
        int colds;
        final int[] wides = new int[MOST_PARTNERS];
        final int[] worths = new int[MOST_PARTNERS];
        final int[] gains = new int[MOST_PARTNERS];
        final int[] firsts = new int[MOST_JOINS];
        final int[] seconds = new int[MOST_JOINS];
        final int[] waxes = new int[MOST_JOINS];
        final int[] doorWides = new int[MOST_DOORS];
        final int[] sick = new int[MOST_COLDS];
        final int[] sickAt = new int[MOST_COLDS];
        final Acts acts = new Acts();

        void clear() {
            lines = 0;
            years = 0;
            law = 0;
            slump = 0;
            odds = 0;
            partners = 0;
            joins = 0;
            doors = 0;
            colds = 0;
            acts.given = 0;
        }

        void copyFrom(Town other) {
            lines = other.lines;
            years = other.years;
            law = other.law;
            slump = other.slump;
            odds = other.odds;
            partners = other.partners;
            joins = other.joins;
            doors = other.doors;
            colds = other.colds;
            copy(other.wides, wides);
            copy(other.worths, worths);
            copy(other.gains, gains);
            copy(other.firsts, firsts);
            copy(other.seconds, seconds);
            copy(other.waxes, waxes);
            copy(other.doorWides, doorWides);
            copy(other.sick, sick);
            copy(other.sickAt, sickAt);
            acts.copyFrom(other.acts);
        }

        static void copy(int[] from, int[] to) {
            System.arraycopy(from, 0, to, 0, Math.min(from.length, to.length));
        }

        boolean isTold() {
            return lines > 0;
        }

        boolean hasYear(int year) {
            return year >= 0 && year < years;
        }

        boolean hasPartner(int partner) {
            return partner >= 0 && partner < partners;
        }

        boolean hasPair(int partner, int other) {
            return hasPartner(partner) && hasPartner(other) && partner != other;
        }

        boolean hasJoin(int join) {
            return join >= 0 && join < joins;
        }

        boolean hasDoor(int door) {
            return door >= 0 && door < doors;
        }

        int toldWorth(int set) {
            int together = 0;
            for (int p = 0; p < partners; p++) {
                if (has(set, p)) {
                    together += worths[p];
                }
            }
            return together;
        }

        int waxOf(int joinSet) {
            int together = 0;
            for (int j = 0; j < joins; j++) {
                if (has(joinSet, j)) {
                    together += waxes[j];
                }
            }
            return together;
        }

        int widthOf(int set, int byLaw, int joinsAmong) {
            int together = 0;
            int widest = 0;
            for (int p = 0; p < partners; p++) {
                if (has(set, p)) {
                    together += wides[p];
                    widest = Math.max(widest, wides[p]);
                }
            }
            switch (byLaw) {
                case 0:
                    return together;
                case 1:
                    return widest;
                case 2:
                    return 2 * Integer.bitCount(set);
                default:
                    return Math.max(1, together - joinsAmong);
            }
        }
    }

    /** A town lived through year by year, as it is or as something is supposed of it. */
    private static final class Decade {
        private static final int MOST_MADE = MOST_JOINS + MOST_ACTS + 1;

        int falseJoins;
        boolean actsAside;
        int keptIn;
        int sickBesides;
        int shaved;

        // every JOIN, told ones ahead: it would hold from a YEAR on until another one
        private int joins;
        private final int[] firsts = new int[MOST_MADE];
        private final int[] seconds = new int[MOST_MADE];
        private final int[] froms = new int[MOST_MADE];
        private final int[] untils = new int[MOST_MADE];

        final int[] helds = new int[MOST_YEARS];
        final int[] outs = new int[MOST_YEARS];
        final int[] sicks = new int[MOST_YEARS];
        final int[][] worths = new int[MOST_YEARS][MOST_PARTNERS];
        final int[][] ties = new int[MOST_YEARS][MOST_PARTNERS];
        final int[][] firmSets = new int[MOST_YEARS][MOST_PARTNERS];
        int everSick;

        void supposeNothing() {
            falseJoins = 0;
            actsAside = false;
            keptIn = 0;
            sickBesides = 0;
            shaved = 0;
        }

        void live(Town town, int years) {
            gatherJoins(town);
            int gone = 0;
            everSick = 0;
            for (int year = 0; year < years && year < MOST_YEARS; year++) {
                tellWorths(town, year);
                joinUp(town, year, gone);
                int failing = failingIn(town, year);
                if (failing != 0) {
                    gone |= failing;
                    joinUp(town, year, gone);
                }
                outs[year] = gone;
                helds[year] = toldHeld(town, year, gone);
                sicks[year] = catching(town, year) & ~(everSick | gone | keptIn);
                everSick |= sicks[year];
            }
        }

        private void gatherJoins(Town town) {
            joins = 0;
            for (int j = 0; j < town.joins; j++) {
                int until = has(falseJoins, j) ? 0 : town.waxes[j];
                gather(town, town.firsts[j], town.seconds[j], 0, until, NONE);
            }
            if (actsAside) {
                return;
            }
            Acts acts = town.acts;
            for (int i = 0; i < acts.given; i++) {
                if (acts.waxes[i] != Acts.A_SNIP) {
                    int until = acts.years[i] + acts.waxes[i];
                    gather(town, acts.firsts[i], acts.seconds[i], acts.years[i], until, i);
                }
            }
        }

        private void gather(Town town, int first, int second, int from, int until, int act) {
            if (joins >= MOST_MADE) {
                return;
            }
            int end = until;
            if (!actsAside) {
                end = Math.min(end, town.acts.cutOf(first, second, from, act));
            }
            // who shaves is cut from all behind the acts of YEAR 0, and joined no more
            if (has(shaved, first) || has(shaved, second)) {
                end = 0;
            }
            firsts[joins] = first;
            seconds[joins] = second;
            froms[joins] = from;
            untils[joins] = end;
            joins++;
        }

        private void tellWorths(Town town, int year) {
            for (int p = 0; p < town.partners; p++) {
                if (year == 0) {
                    worths[year][p] = town.worths[p];
                } else {
                    worths[year][p] = worths[year - 1][p] + change(town, year - 1, p);
                }
            }
        }

        private int change(Town town, int year, int partner) {
            if (has(outs[year], partner)) {
                return 0;
            }
            return town.gains[partner] - (has(sicks[year], partner) ? town.slump : 0);
        }

        private boolean holdsIn(int j, int year, int away) {
            boolean inForce = froms[j] <= year && year < untils[j];
            return inForce && !has(away, firsts[j]) && !has(away, seconds[j]);
        }

        private void joinUp(Town town, int year, int away) {
            int[] tie = ties[year];
            int[] firm = firmSets[year];
            for (int p = 0; p < MOST_PARTNERS; p++) {
                tie[p] = 0;
                firm[p] = 0;
            }
            for (int j = 0; j < joins; j++) {
                if (holdsIn(j, year, away)) {
                    tie[firsts[j]] |= 1 << seconds[j];
                    tie[seconds[j]] |= 1 << firsts[j];
                }
            }
            for (int p = 0; p < town.partners; p++) {
                if (!has(away, p) && firm[p] == 0) {
                    giveFirm(firm, reach(tie, 1 << p));
                }
            }
        }

        private static void giveFirm(int[] firm, int members) {
            for (int p = 0; p < firm.length; p++) {
                if (has(members, p)) {
                    firm[p] = members;
                }
            }
        }

        private static int reach(int[] tie, int set) {
            int reached = set;
            for (int step = 0; step < MOST_PARTNERS; step++) {
                int further = reached | tiedTo(tie, reached);
                if (further == reached) {
                    return reached;
                }
                reached = further;
            }
            return reached;
        }

        private static int tiedTo(int[] tie, int set) {
            int reached = 0;
            for (int p = 0; p < tie.length; p++) {
                if (has(set, p)) {
                    reached |= tie[p];
                }
            }
            return reached;
        }

        private int failingIn(Town town, int year) {
            int failing = 0;
            for (int p = 0; p < town.partners; p++) {
                int firm = firmSets[year][p];
                if (isFirstOfFirm(p, year) && worthOf(firm, year) < 0) {
                    failing |= firm;
                }
            }
            return failing;
        }

        private int toldHeld(Town town, int year, int away) {
            int held = 0;
            for (int j = 0; j < town.joins; j++) {
                if (holdsIn(j, year, away)) {
                    held |= 1 << j;
                }
            }
            return held;
        }

        private int catching(Town town, int year) {
            int caught = year == 0 ? sickBesides : tiedTo(ties[year - 1], sicks[year - 1]);
            for (int c = 0; c < town.colds; c++) {
                if (town.sickAt[c] == year) {
                    caught |= 1 << town.sick[c];
                }
            }
            return caught;
        }

        int worthOf(int set, int year) {
            int together = 0;
            for (int p = 0; p < MOST_PARTNERS; p++) {
                if (has(set, p)) {
                    together += worths[year][p];
                }
            }
            return together;
        }

        boolean areTied(int partner, int other, int year) {
            return has(ties[year][partner], other);
        }

        boolean isFirstOfFirm(int partner, int year) {
            int firm = firmSets[year][partner];
            return firm != 0 && (firm & allOf(partner)) == 0;
        }

        int firmCount(Town town, int year) {
            int counted = 0;
            for (int p = 0; p < town.partners; p++) {
                if (isFirstOfFirm(p, year)) {
                    counted++;
                }
            }
            return counted;
        }

        int firmWidth(Town town, int year, int partner, int law) {
            int firm = firmSets[year][partner];
            return firm == 0 ? 0 : town.widthOf(firm, law, joinsAmong(firm, year));
        }

        private int joinsAmong(int firm, int year) {
            int among = 0;
            for (int j = 0; j < joins; j++) {
                boolean inForce = froms[j] <= year && year < untils[j];
                if (inForce && has(firm, firsts[j]) && has(firm, seconds[j])) {
                    among++;
                }
            }
            return among;
        }

        int doorsOf(Town town, int year, int partner, int law) {
            int width = firmWidth(town, year, partner, law);
            int through = 0;
            for (int d = 0; d < town.doors; d++) {
                if (width != 0 && width <= town.doorWides[d]) {
                    through |= 1 << d;
                }
            }
            return through;
        }

        int distance(int from, int to, int year) {
            if (!has(firmSets[year][from], to)) {
                return NONE;
            }
            int reached = 1 << from;
            for (int steps = 0; steps < MOST_PARTNERS; steps++) {
                if (has(reached, to)) {
                    return steps;
                }
                reached |= tiedTo(ties[year], reached);
            }
            return NONE;
        }
    }

    /** Sets of PARTNERS at a DOOR, whatever joins them. */
    private static final class Crowd {
        final int[] fewest = new int[1 << MOST_PARTNERS];
        final int[] wayCounts = new int[1 << MOST_PARTNERS];

        private static boolean fits(Town town, int set, int door) {
            if (set == 0) {
                return true;
            }
            return town.widthOf(set, town.law, Integer.bitCount(set) - 1) <= town.doorWides[door];
        }

        static int setWorth(Town town, int set, int door) {
            return fits(town, set, door) ? town.toldWorth(set) : 0;
        }

        static int bestSet(Town town, int door) {
            int found = 0;
            int most = 0;
            for (int set = 0; set < 1 << town.partners; set++) {
                int together = setWorth(town, set, door);
                if (together > most) {
                    found = set;
                    most = together;
                }
            }
            return found;
        }

        /** For each set of PARTNERS the fewest parts that go through, and in how many ways. */
        void part(Town town, int door) {
            fewest[0] = 0;
            wayCounts[0] = 1;
            for (int set = 1; set < 1 << town.partners; set++) {
                fewest[set] = NONE;
                wayCounts[set] = 0;
                int lowest = set & -set;
                for (int part = 1; part <= set; part++) {
                    // the part of the lowest PARTNER comes first: so no order counts twice
                    boolean first = (part & lowest) != 0 && (part & ~set) == 0;
                    if (first && fits(town, part, door)) {
                        addParting(set, set & ~part);
                    }
                }
            }
        }

        private void addParting(int set, int rest) {
            if (fewest[rest] == NONE) {
                return;
            }
            int parts = fewest[rest] + 1;
            if (fewest[set] == NONE || parts < fewest[set]) {
                fewest[set] = parts;
                wayCounts[set] = 0;
            }
            if (parts == fewest[set]) {
                wayCounts[set] += wayCounts[rest];
            }
        }

        /** What sets are worth more by a PARTNER, over all orders in which PARTNERS come. */
        static long gainOverOrders(Town town, int partner, int door) {
            long together = 0;
            for (int ahead = 0; ahead < 1 << town.partners; ahead++) {
                if (!has(ahead, partner)) {
                    int gain = setWorth(town, ahead | 1 << partner, door)
                            - setWorth(town, ahead, door);
                    int before = Integer.bitCount(ahead);
                    int behind = Math.max(0, town.partners - 1 - before);
                    together += (long) gain * FACTORIALS[before] * FACTORIALS[behind];
                }
            }
            return together;
        }

        static int firstLeaver(Town town, int door, Numbers given) {
            for (int set = 0; set < 1 << town.partners; set++) {
                if (given.compareTogether(set, setWorth(town, set, door)) < 0) {
                    return set;
                }
            }
            return NONE;
        }
    }

    /** Which told JOINS can be true by what was seen: a PARTNER, a DOOR, 1 or 0, and so on. */
    private static final class Gum {
        private static final int SEEN_AT_ONCE = 3;

        int setCount;
        int inAll;
        int inAny;
        private final int[] throughs = new int[MOST_PARTNERS * MOST_DOORS];

        static boolean canRead(Town town, Numbers row) {
            if (row.size % SEEN_AT_ONCE != 0) {
                return false;
            }
            for (int i = 0; i + 2 < row.size; i += SEEN_AT_ONCE) {
                boolean told = isBelow(row.values[i], town.partners)
                        && isBelow(row.values[i + 1], town.doors) && isBelow(row.values[i + 2], 2);
                if (!told) {
                    return false;
                }
            }
            return true;
        }

        private static boolean isBelow(long number, int bound) {
            return number >= 0 && number < bound;
        }

        static boolean agrees(Town town, Decade decade, Numbers row, int law) {
            for (int i = 0; i + 2 < row.size; i += SEEN_AT_ONCE) {
                int partner = (int) row.values[i];
                int door = (int) row.values[i + 1];
                if (!town.hasPartner(partner) || !town.hasDoor(door)) {
                    return false;
                }
                boolean through = has(decade.doorsOf(town, 0, partner, law), door);
                if (through != (row.values[i + 2] == 1)) {
                    return false;
                }
            }
            return true;
        }

        void countSets(Town town, Decade decade, Numbers row) {
            int all = allOf(town.joins);
            setCount = 0;
            inAll = all;
            inAny = 0;
            for (int i = 0; i < throughs.length; i++) {
                throughs[i] = 0;
            }
            for (int set = 0; set <= all; set++) {
                decade.supposeNothing();
                decade.actsAside = true;
                decade.falseJoins = all & ~set;
                decade.live(town, 1);
                if (agrees(town, decade, row, town.law)) {
                    setCount++;
                    inAll &= set;
                    inAny |= set;
                    countThroughs(town, decade);
                }
            }
        }

        private void countThroughs(Town town, Decade decade) {
            for (int p = 0; p < town.partners; p++) {
                int through = decade.doorsOf(town, 0, p, town.law);
                for (int d = 0; d < town.doors; d++) {
                    if (has(through, d)) {
                        throughs[p * MOST_DOORS + d]++;
                    }
                }
            }
        }

        /** Ten times the PARTNER, and the DOOR, to ask about; NONE if no answer is sure to help. */
        int bestQuestion(Town town) {
            int found = NONE;
            int least = setCount;
            for (int p = 0; p < town.partners; p++) {
                for (int d = 0; d < town.doors; d++) {
                    int question = 10 * p + d;
                    int left = leftAtWorst(question);
                    if (left < least) {
                        found = question;
                        least = left;
                    }
                }
            }
            return found;
        }

        int leftAtWorst(int question) {
            int at = question < 0 ? NONE : question / 10 * MOST_DOORS + question % 10;
            if (at < 0 || at >= throughs.length) {
                return setCount;
            }
            return Math.max(throughs[at], setCount - throughs[at]);
        }
    }

    /** A SLOT: a row of numbers of one WIDTH, or nothing. */
    private static final class Numbers {
        private static final long LOW_HALF = 0xFFFFFFFFL;

        final long[] values = new long[MOST_NUMBERS];
        int width = NONE;
        int size;

        boolean isThere() {
            return width != NONE;
        }

        void begin(int newWidth, int n) {
            width = newWidth;
            size = Math.max(0, Math.min(n, values.length));
            for (int i = 0; i < size; i++) {
                values[i] = 0;
            }
        }

        void put(int i, long v) {
            if (i < 0 || i >= size) {
                return;
            }
            switch (width) {
                case 0:
                    values[i] = (byte) v;
                    break;
                case 1:
                    values[i] = (short) v;
                    break;
                case 2:
                    values[i] = (int) v;
                    break;
                default:
                    values[i] = v;
                    break;
            }
        }

        /** Whether n numbers from i on are in the row; looked at so that no sum can wrap. */
        boolean reaches(int i, int n) {
            return i >= 0 && n >= 0 && i <= size && n <= size - i;
        }

        /**
         * Below 0, 0 or above it as what a set of PARTNERS has together is less than an amount
         * (not below 0), just it, or more: in halves, for together it may be more than a long holds.
         */
        int compareTogether(int set, int amount) {
            long high = 0;
            long low = 0;
            for (int p = 0; p < size && p < MOST_PARTNERS; p++) {
                if (has(set, p)) {
                    high += values[p] >> 32;
                    low += values[p] & LOW_HALF;
                }
            }
            high += low >> 32;
            low &= LOW_HALF;
            return high != 0 ? Long.compare(high, 0) : Long.compare(low, amount);
        }
    }
}
