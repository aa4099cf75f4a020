import java.lang.management.ManagementFactory;

/** All calls of a run live in one room: once an object is made, no call makes anything more. */
public final class RoomTest {
    private static final String CITY = "city years 12 law 3 slump 9 odds 3;"
            + "partner wide 3 worth 10 gains 1;partner wide 2 worth 5 gains 0;partner wide 4 worth 8 gains 2;"
            + "partner wide 3 worth 10 gains 1;partner wide 2 worth 5 gains 0;partner wide 4 worth 8 gains 2;"
            + "join 0 1 wax 3;join 1 2 wax 2;join 2 3 wax 4;join 3 4 wax 9;join 4 5 wax 8;join 5 0 wax 7;"
            + "join 0 3 wax 6;door 5;door 9;door 12;door 3;door 2;"
            + "cold 0 at 0;cold 1 at 3;cold 2 at 5;cold 3 at 7;cold 4 at 9;";

    private RoomTest() {
    }

    public static void main(String[] args) {
        com.sun.management.ThreadMXBean threads =
                (com.sun.management.ThreadMXBean) ManagementFactory.getThreadMXBean();
        long self = Thread.currentThread().getId();
        WaxedPartners x = new WaxedPartners();
        x.image(0);
        everyCall(x);
        Checks.read(x, CITY);
        everyCall(x);
        Checks.section("room");
        // what asking itself makes is the same each time; the first time is left out
        threads.getThreadAllocatedBytes(self);
        long before = threads.getThreadAllocatedBytes(self);
        long between = threads.getThreadAllocatedBytes(self);
        everyCall(x);
        long behind = threads.getThreadAllocatedBytes(self);
        Checks.due("bytes made by 66 calls", behind - between, between - before);
        before = threads.getThreadAllocatedBytes(self);
        WaxedPartners other = new WaxedPartners();
        behind = threads.getThreadAllocatedBytes(self);
        Checks.due("an object is small", behind - before < 30000 ? 1 : 0, 1);
        Checks.due("fed()", other.count(10), 0);
        Checks.end();
    }

    private static void everyCall(WaxedPartners x) {
        for (int i = 0; i < 26; i++) {
            x.weld(i % 6, (i + 1) % 6, i % 12, 1 + i % 9);
        }
        x.snip(0, 1, 3);
        acts(x);
        years(x);
        sets(x);
        gum(x);
        chance(x);
    }

    private static void acts(WaxedPartners x) {
        x.feed(1, 2, 3, 4, 5);
        x.end(3);
        x.city();
        x.fault(0);
        x.fault(1);
        x.undo();
        x.image(1);
        x.back(1);
        x.rate(9);
        x.count(11);
        x.row(0, 3, 6);
        x.write(0, 5, 7);
        x.row(1, 0, 60);
        x.write(1, 2, 1);
        x.paste(1, 0, 1, 3, 20);
        x.partner(0, 0);
        x.join(0, 0);
        x.door(0);
    }

    private static void years(WaxedPartners x) {
        x.holds(0);
        x.tied(0, 1, 0);
        x.firm(0, 0);
        x.firms(0);
        x.wide(0, 0);
        x.passes(0, 0);
        x.largest(0);
        x.hairs(0, 3, 0);
        x.colds(3);
        x.cold(2);
        x.worth(0, 11);
        x.funds(0, 11);
        x.out(11);
        x.fails(0);
        x.richest(3);
        x.parts(0);
        x.merger();
        x.apart(0, 1);
        x.singles(3);
        x.total(3);
    }

    private static void sets(WaxedPartners x) {
        x.best(1);
        x.bests(1);
        x.sets(1);
        x.ways(1);
        x.share(0, 1, 0);
        x.fair(0, 1);
        x.leave(0, 1);
        x.snips(0, 3);
        x.snipped(0, 3);
        x.wax(0, 3);
        x.guards(5);
        x.guarded(5);
        x.sneezer();
    }

    private static void gum(WaxedPartners x) {
        x.trues(1);
        x.surely(1);
        x.never(1);
        x.ask(1);
        x.leaves(1);
        x.laws(1);
        x.by(1, 2);
        x.rests(0, 1);
        x.gets(0, 1, 1, 0);
        x.when(0, 1);
    }

    private static void chance(WaxedPartners x) {
        x.chance(0, 1, 0);
        x.through(0, 1, 1);
        x.mean(0);
        x.drawn(5, 0);
        x.luck(5, 20, 0);
        x.anew();
    }
}
