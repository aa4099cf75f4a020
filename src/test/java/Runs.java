import java.lang.reflect.Method;
import java.util.ArrayList;
import java.util.HashMap;
import java.util.List;
import java.util.Map;
import java.util.Set;

/**
 * A run of calls, a text each, as "weld 0 1 4 1 = -2", on two objects: one makes all of them, its
 * twin those alone that change something. At the end both must be alike in all that can be asked:
 * so what asks, and what is refused, has changed nothing.
 */
final class Runs {
    private static final int MOST_CALLS = 512;
    private static final Set<String> CHANGING = Set.of("feed", "end", "city", "weld", "snip", "undo", "anew",
            "rate", "image", "back", "row", "write", "paste");
    private static final Map<String, Method> FACE = face();

    private final String name;
    private final WaxedPartners program = new WaxedPartners();
    private final WaxedPartners twin = new WaxedPartners();
    private int made;

    Runs(String name) {
        this.name = name;
        Checks.section(name);
    }

    Runs(String name, String city) {
        this(name);
        text(city);
        int lines = city.length() - city.replace(";", "").length();
        calls("city = " + lines);
    }

    private static Map<String, Method> face() {
        Map<String, Method> found = new HashMap<>();
        for (Method method : WaxedPartners.class.getMethods()) {
            if (method.getDeclaringClass() == WaxedPartners.class) {
                found.put(method.getName(), method);
            }
        }
        return found;
    }

    /** Feeds a text, behind what the TAPE has. */
    void text(String text) {
        made += text.length() / 20 + 3;
        Checks.feed(program, text);
        Checks.feed(twin, text);
    }

    void calls(String... rows) {
        for (String row : rows) {
            String[] sides = row.split(" = ");
            long due = Long.parseLong(sides[1].trim());
            made++;
            Checks.due(sides[0], call(program, sides[0]), due);
            String asked = sides[0].split(" ")[0];
            boolean refused = due < 0 && !asked.equals("city");
            if (CHANGING.contains(asked) && !refused) {
                call(twin, sides[0]);
            }
        }
    }

    /** The same call with one argument, the sign # in it, from a number on: an answer each. */
    void each(String call, int from, long... due) {
        for (int i = 0; i < due.length; i++) {
            calls(call.replace("#", Integer.toString(from + i)) + " = " + due[i]);
        }
    }

    /** The same call with the sign # in it far beyond all that there can be. */
    void far(String call, long due) {
        for (String number : new String[] {"MIN", "-2", "64", "MAX"}) {
            calls(call.replace("#", number) + " = " + due);
        }
    }

    void end() {
        List<Integer> ofProgram = State.of(program);
        List<Integer> ofTwin = State.of(twin);
        made += ofProgram.size();
        Checks.section(name + ", nothing is changed by what asks or is refused");
        Checks.due("answers of both", ofProgram.size(), ofTwin.size());
        for (int i = 0; i < Math.min(ofProgram.size(), ofTwin.size()); i++) {
            Checks.due("answer " + i + " behind the run", ofProgram.get(i), ofTwin.get(i));
        }
        Checks.due(made + " calls of one object: too many", made > MOST_CALLS ? 1 : 0, 0);
        Checks.section(name);
    }

    static int call(WaxedPartners x, String asked) {
        String[] parts = asked.split(" ");
        Method method = FACE.get(parts[0]);
        Class<?>[] kinds = method.getParameterTypes();
        if (kinds.length != parts.length - 1) {
            throw new IllegalArgumentException(asked);
        }
        Object[] values = new Object[kinds.length];
        for (int i = 0; i < values.length; i++) {
            values[i] = value(parts[i + 1], kinds[i] == long.class);
        }
        try {
            return (Integer) method.invoke(x, values);
        } catch (ReflectiveOperationException e) {
            throw new IllegalStateException(asked, e);
        }
    }

    private static Object value(String told, boolean isLong) {
        if (isLong) {
            return told.equals("MIN") ? Long.MIN_VALUE : told.equals("MAX") ? Long.MAX_VALUE : Long.parseLong(told);
        }
        return told.equals("MIN") ? Integer.MIN_VALUE
                : told.equals("MAX") ? Integer.MAX_VALUE : Integer.parseInt(told);
    }

    /** All that can be asked of an object, what changes it last; its calls are as many as answers. */
    private static final class State {
        private final WaxedPartners x;
        private final List<Integer> answers = new ArrayList<>();

        private State(WaxedPartners x) {
            this.x = x;
        }

        static List<Integer> of(WaxedPartners x) {
            State state = new State(x);
            state.told();
            state.years();
            state.slots();
            state.acts();
            state.images();
            state.tape();
            return state.answers;
        }

        private void add(int answer) {
            answers.add(answer);
        }

        private void told() {
            for (int what = 0; what < 12; what++) {
                add(x.count(what));
            }
            add(x.fault(0));
            add(x.fault(1));
            for (int p = 0; p < answers.get(4); p++) {
                for (int what = 0; what < 3; what++) {
                    add(x.partner(p, what));
                }
            }
            for (int j = 0; j < answers.get(5); j++) {
                for (int what = 0; what < 3; what++) {
                    add(x.join(j, what));
                }
            }
            for (int d = 0; d < answers.get(6); d++) {
                add(x.door(d));
            }
        }

        private void years() {
            for (int y = 0; y < Math.min(5, answers.get(0)); y++) {
                add(x.holds(y));
                add(x.colds(y));
                add(x.out(y));
                for (int p = 0; p < Math.min(3, answers.get(4)); p++) {
                    add(x.worth(p, y));
                    add(x.firm(p, y));
                }
            }
            add(x.mean(0));
            add(x.mean(1));
            add(x.drawn(7, 0));
            add(x.drawn(7, 1));
        }

        private void slots() {
            for (int s = 0; s < 4; s++) {
                add(x.fair(s, 0));
                add(x.leave(s, 1));
                add(x.trues(s));
                add(x.laws(s));
                for (int t = s + 1; t < 4; t++) {
                    add(x.paste(s, 0, t, 0, 0));
                }
                for (int n : new int[] {1, 2, 3, 4, 6, 7, 59, 60}) {
                    add(x.paste(s, n, s, n, 0));
                }
            }
        }

        private void acts() {
            for (int left = answers.get(8); left >= 0; left--) {
                if (left < 5) {
                    add(x.firm(0, 0));
                    add(x.firm(1, 1));
                    add(x.firm(2, 3));
                }
                add(x.undo());
            }
        }

        private void images() {
            for (int k = 2; k >= 0; k--) {
                add(x.back(k));
                for (int what = 0; what < 10; what++) {
                    add(x.count(what));
                }
                add(x.undo());
                add(x.worth(0, 1));
                add(x.firm(1, 1));
            }
        }

        private void tape() {
            add(x.feed(0x20202020, 0x20202020, 0x20202020, 0x20202020, 0x20202020));
            add(x.city());
            add(x.fault(0));
            add(x.fault(1));
            for (int what = 0; what < 11; what++) {
                add(x.count(what));
            }
        }
    }
}
