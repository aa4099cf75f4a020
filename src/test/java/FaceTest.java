import java.lang.reflect.Field;
import java.lang.reflect.Method;
import java.lang.reflect.Modifier;
import java.util.Arrays;
import java.util.Set;
import java.util.TreeSet;

/** The public face is that of the document, and nothing else can be seen from outside. */
public final class FaceTest {
    private static final String[] FACE = {
        "feed int int int int int", "end int", "city", "fault int", "partner int int", "join int int", "door int",
        "holds int", "tied int int int", "firm int int", "firms int", "wide int int", "passes int int",
        "largest int", "hairs int int int", "colds int", "cold int", "worth int int", "funds int int", "out int",
        "fails int", "richest int", "parts int", "merger", "apart int int", "singles int", "total int", "best int",
        "bests int", "sets int", "ways int", "share int int int", "fair int int", "leave int int",
        "snips int int", "snipped int int", "wax int int", "guards int", "guarded int", "sneezer", "trues int",
        "surely int", "never int", "ask int", "leaves int", "laws int", "by int int", "rests int int",
        "gets int int int int", "when int int", "chance int int int", "through int int int", "mean int",
        "weld int int int int", "snip int int int", "undo", "anew", "drawn int int", "luck int int int",
        "rate int", "count int", "image int", "back int", "row int int int", "write int int long",
        "paste int int int int int"};

    private FaceTest() {
    }

    public static void main(String[] args) {
        Class<?> face = WaxedPartners.class;
        Checks.section("face");
        Checks.due("public and final", face.getModifiers(), Modifier.PUBLIC | Modifier.FINAL);
        Checks.due("constructors", face.getDeclaredConstructors().length, 1);
        Checks.due("constructor", face.getDeclaredConstructors()[0].getModifiers(), Modifier.PUBLIC);
        Checks.due("constructor's parameters", face.getDeclaredConstructors()[0].getParameterCount(), 0);
        Set<String> names = methods(face);
        fields(face);
        for (Class<?> inside : face.getDeclaredClasses()) {
            same(inside + " is static", Modifier.isStatic(inside.getModifiers()), true);
            same(inside + " is not seen", Modifier.isPublic(inside.getModifiers())
                    || Modifier.isProtected(inside.getModifiers()), false);
            for (Method method : inside.getDeclaredMethods()) {
                same(method + " has a name of its own", names.contains(method.getName()), false);
            }
        }
        Checks.end();
    }

    private static void same(String what, boolean got, boolean want) {
        Checks.due(what, got ? 1 : 0, want ? 1 : 0);
    }

    private static Set<String> methods(Class<?> face) {
        Set<String> left = new TreeSet<>(Arrays.asList(FACE));
        Set<String> names = new TreeSet<>();
        for (Method method : face.getDeclaredMethods()) {
            if (Modifier.isPrivate(method.getModifiers())) {
                continue;
            }
            StringBuilder told = new StringBuilder(method.getName());
            for (Class<?> parameter : method.getParameterTypes()) {
                told.append(' ').append(parameter.getName());
            }
            same(told + " is of the face", left.remove(told.toString()), true);
            same(told + " answers an int", method.getReturnType() == int.class, true);
            Checks.due(told + " is public", method.getModifiers(), Modifier.PUBLIC);
            names.add(method.getName());
        }
        Checks.due("methods left out " + left, left.size(), 0);
        for (Method method : face.getDeclaredMethods()) {
            if (Modifier.isPrivate(method.getModifiers())) {
                same(method + " has a name of its own", names.contains(method.getName()), false);
            }
        }
        return names;
    }

    private static void fields(Class<?> face) {
        for (Field field : face.getDeclaredFields()) {
            boolean constant = field.getName().equals("NONE");
            same(field + " is private", Modifier.isPrivate(field.getModifiers()), !constant);
            same(field + " is final, if it is static", Modifier.isFinal(field.getModifiers()),
                    Modifier.isStatic(field.getModifiers()) || Modifier.isFinal(field.getModifiers()));
        }
        Checks.due("NONE", WaxedPartners.NONE, -1);
    }
}
