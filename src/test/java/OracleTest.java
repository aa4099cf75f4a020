import java.lang.reflect.Method;
import java.nio.charset.StandardCharsets;
import java.util.Arrays;
import java.util.HashMap;
import java.util.Map;
import java.util.Random;

/** Runs of calls by chance (always the same ones), each answered by the program and by Oracle. */
public final class OracleTest {
    private static final int RUNS = 600;
    /** An object is used for 512 calls; the longest text takes some 60 of them. */
    private static final int MOST_CALLS = 512 - 60;

    /** What each argument is: Partner, Year, Door, Join, slot, what, Law, number in a row .. */
    private static final String[] ASKED = {
        "fault w", "partner P w", "join J w", "door D", "holds Y", "tied P P Y", "firm P Y", "firms Y",
        "wide P Y", "passes P Y", "largest Y", "hairs P P Y", "colds Y", "cold P", "worth P Y", "funds P Y",
        "out Y", "fails P", "richest Y", "parts J", "merger", "apart P P", "singles Y", "total Y", "best D",
        "bests D", "sets D", "ways D", "share P D w", "fair s D", "leave s D", "snips P P", "snipped P P",
        "wax P P", "guards P", "guarded P", "sneezer", "trues s", "surely s", "never s", "ask s", "leaves s",
        "laws s", "by D L", "rests P P", "gets P P w w", "when P P", "chance P P w", "through P D w", "mean w",
        "drawn S w", "luck S N P", "count c"};
    private static final String[] DONE = {
        "weld P P Y W", "weld P P Y W", "weld P P Y W", "snip P P Y", "snip P P Y", "undo", "image k", "back k",
        "rate R", "anew", "row s x n", "write s i v", "paste s i s i i", "end n"};

    private static final Map<String, Method> PROGRAM = methods(WaxedPartners.class);
    private static final Map<String, Method> ORACLE = methods(Oracle.class);

    private final Random random;
    private final WaxedPartners program = new WaxedPartners();
    private final Oracle oracle = new Oracle();
    private int made;
    private int partners = 6;
    private int joins = 7;
    private int doors = 5;
    private int years = 12;

    private OracleTest(long seed) {
        random = new Random(seed);
    }

    public static void main(String[] args) throws Exception {
        Class.forName("WaxedPartners");
        for (int run = 0; run < RUNS && Checks.wrongSoFar() == 0; run++) {
            Checks.section("run " + run);
            new OracleTest(run).run();
        }
        Checks.end();
    }

    private static Map<String, Method> methods(Class<?> of) {
        Map<String, Method> found = new HashMap<>();
        for (Method m : of.getDeclaredMethods()) {
            boolean asked = Arrays.stream(m.getParameterTypes())
                    .allMatch(t -> t == int.class || t == long.class || t == int[].class);
            if (asked && m.getReturnType() == int.class && !m.isSynthetic()
                    && !java.lang.reflect.Modifier.isPrivate(m.getModifiers())
                    && !java.lang.reflect.Modifier.isStatic(m.getModifiers())) {
                found.put(m.getName(), m);
            }
        }
        return found;
    }

    private void run() throws Exception {
        while (made < MOST_CALLS && Checks.wrongSoFar() == 0) {
            int chosen = random.nextInt(100);
            if (made == 0 || chosen < 2) {
                read();
            } else if (chosen < 25) {
                call(DONE[random.nextInt(DONE.length)]);
            } else if (chosen < 29) {
                fillRow();
            } else {
                call(ASKED[random.nextInt(ASKED.length)]);
            }
        }
    }

    private void call(String shape) throws Exception {
        String[] parts = shape.split(" ");
        Method asked = PROGRAM.get(parts[0]);
        Object[] values = new Object[parts.length - 1];
        for (int i = 0; i < values.length; i++) {
            long value = argument(parts[i + 1].charAt(0));
            values[i] = asked.getParameterTypes()[i] == int.class ? (Object) (int) value : (Object) value;
        }
        made++;
        Object got = asked.invoke(program, values);
        Object want = ORACLE.get(parts[0]).invoke(oracle, values);
        Checks.due(parts[0] + Arrays.toString(values), (Integer) got, (Integer) want);
    }

    private long argument(char kind) {
        if (random.nextInt(60) == 0) {
            int[] wild = {-1, -2, 60, 61, 100, Integer.MAX_VALUE, Integer.MIN_VALUE, 7};
            return wild[random.nextInt(wild.length)];
        }
        switch (kind) {
            case 'P':
                return random.nextInt(partners + (random.nextInt(20) == 0 ? 1 : 0));
            case 'Y':
                return random.nextInt(years + (random.nextInt(20) == 0 ? 1 : 0));
            case 'D':
                return random.nextInt(doors + (random.nextInt(20) == 0 ? 1 : 0));
            case 'J':
                return random.nextInt(joins + (random.nextInt(20) == 0 ? 1 : 0));
            case 'w':
                return random.nextInt(random.nextInt(5) == 0 ? 4 : 2);
            case 's':
                return random.nextInt(random.nextInt(20) == 0 ? 5 : 4);
            case 'L':
                return random.nextInt(random.nextInt(20) == 0 ? 5 : 4);
            case 'W':
                return random.nextInt(10) + (random.nextInt(10) == 0 ? 1 : 0);
            case 'S':
                return random.nextInt(4) == 0 ? 2000000000L - random.nextInt(3) + random.nextInt(2)
                        : random.nextInt(2000000001);
            case 'N':
                return random.nextInt(22);
            case 'R':
                return random.nextInt(22);
            case 'k':
                return random.nextInt(4);
            case 'x':
                return random.nextInt(random.nextInt(10) == 0 ? 5 : 4);
            case 'n':
                return random.nextInt(10);
            case 'i':
                return random.nextInt(8);
            case 'c':
                return random.nextInt(13);
            default:
                return random.nextBoolean() ? random.nextInt(40) - 10 : random.nextLong();
        }
    }

    private void fillRow() {
        int slot = random.nextInt(4);
        int width = random.nextInt(4);
        boolean seen = random.nextBoolean();
        int n = seen ? 3 * random.nextInt(4) : partners;
        put("row", program.row(slot, width, n), oracle.row(slot, width, n));
        for (int i = 0; i < n; i++) {
            long v = random.nextInt(30);
            if (seen) {
                int[] ends = {partners, doors, 2};
                v = random.nextInt(ends[i % 3] + (random.nextInt(40) == 0 ? 1 : 0));
            } else if (random.nextInt(4) == 0) {
                v = random.nextBoolean() ? argument('v') : (1L << 32) - random.nextInt(3);
            }
            put("write", program.write(slot, i, v), oracle.write(slot, i, v));
        }
        if (seen) {
            put("trues", program.trues(slot), oracle.trues(slot));
            put("surely", program.surely(slot), oracle.surely(slot));
            put("never", program.never(slot), oracle.never(slot));
            put("ask", program.ask(slot), oracle.ask(slot));
            put("leaves", program.leaves(slot), oracle.leaves(slot));
            put("laws", program.laws(slot), oracle.laws(slot));
        } else {
            int door = random.nextInt(doors + 1);
            put("fair", program.fair(slot, door), oracle.fair(slot, door));
            put("leave", program.leave(slot, door), oracle.leave(slot, door));
        }
    }

    private void put(String call, long got, long want) {
        made++;
        Checks.due(call, got, want);
    }

    private void read() {
        String text = cityText();
        if (random.nextInt(4) == 0) {
            text = spoil(text);
        }
        byte[] bytes = text.getBytes(StandardCharsets.ISO_8859_1);
        int before = program.count(10);
        if (before != 0 && random.nextInt(10) != 0) {
            put("end(0)", program.end(0), oracle.end(0));
            before = 0;
        }
        for (int i = 0; i < bytes.length; i += 20) {
            int[] fed = new int[5];
            for (int b = 0; b < 20; b++) {
                fed[b / 4] = fed[b / 4] << 8 | (i + b < bytes.length ? bytes[i + b] & 255 : 32);
            }
            put("feed", program.feed(fed[0], fed[1], fed[2], fed[3], fed[4]), oracle.feed(fed));
        }
        int end = before + bytes.length;
        put("end", program.end(end), oracle.end(end));
        put("city() of " + text, program.city(), oracle.city());
        put("fault(0) of " + text, program.fault(0), oracle.fault(0));
        put("fault(1) of " + text, program.fault(1), oracle.fault(1));
        partners = Math.max(1, oracle.count(4));
        joins = Math.max(1, oracle.count(5));
        doors = Math.max(1, oracle.count(6));
        years = Math.max(1, oracle.count(0));
    }

    private String cityText() {
        StringBuilder text = new StringBuilder("city years " + (1 + random.nextInt(12)));
        text.append(" law ").append(random.nextInt(4)).append(" slump ").append(random.nextInt(21));
        text.append(" odds ").append(random.nextInt(11)).append(';');
        int most = random.nextInt(8) == 0 ? 7 : 6;
        int told = random.nextInt(12) == 0 ? random.nextInt(2) : 2 + random.nextInt(most - 1);
        int worth = random.nextBoolean() ? 100 : 12;
        for (int p = 0; p < told; p++) {
            text.append("partner wide ").append(1 + random.nextInt(9)).append(" worth ");
            text.append(random.nextInt(worth)).append(" gains ").append(random.nextInt(10)).append(";\n");
        }
        for (int j = random.nextInt(told < 2 ? 1 : random.nextInt(15) == 0 ? 9 : 8); j > 0; j--) {
            int first = random.nextInt(told);
            int second = (first + 1 + random.nextInt(told - 1)) % told;
            text.append("join ").append(first).append(' ').append(second).append(" wax ");
            text.append(1 + random.nextInt(9)).append(';');
        }
        for (int d = random.nextInt(random.nextInt(15) == 0 ? 7 : 6); d > 0; d--) {
            text.append("door ").append(1 + random.nextInt(random.nextBoolean() ? 60 : 20)).append(';');
        }
        for (int c = told == 0 ? 0 : random.nextInt(random.nextInt(15) == 0 ? 7 : 6); c > 0; c--) {
            text.append("cold ").append(random.nextInt(told)).append(" at ");
            text.append(random.nextInt(random.nextBoolean() ? 3 : 12)).append("; ");
        }
        return text.toString();
    }

    /** The text with some sign put in, left out or put in place of another. */
    private String spoil(String text) {
        StringBuilder spoilt = new StringBuilder(text);
        String signs = "0123456789 ;\n;  abcdA\t\u00ff" + "partnerjoin";
        for (int n = 1 + random.nextInt(2); n > 0; n--) {
            int at = random.nextInt(spoilt.length());
            char sign = signs.charAt(random.nextInt(signs.length()));
            switch (random.nextInt(4)) {
                case 0:
                    spoilt.insert(at, sign);
                    break;
                case 1:
                    spoilt.deleteCharAt(at);
                    break;
                case 2:
                    spoilt.setCharAt(at, sign);
                    break;
                default:
                    spoilt.setLength(Math.max(1, spoilt.length() - random.nextInt(20)));
                    break;
            }
        }
        return spoilt.toString();
    }
}
