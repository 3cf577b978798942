import java.lang.reflect.Field;
import java.lang.reflect.Method;
import java.lang.reflect.Modifier;
import java.util.Arrays;
import java.util.Set;
import java.util.TreeSet;

/** The public face is the document's, and nothing else can be seen from outside. */
public final class FaceTest {
    private static final String[] METHODS = {
        "edge/4", "guard/4", "drop/1", "bound/3", "urgent/2", "edges/0", "reached/1", "earliest/1",
        "atMost/3", "atLeast/3", "pairs/0", "locations/1", "usable/1", "firstUse/1"
    };
    private static final String[] CONSTANTS = {"BAD_ARG", "FULL", "NONE"};

    public static void main(String[] args) {
        Check.due("BAD_ARG", TimedPair.BAD_ARG, -1);
        Check.due("FULL", TimedPair.FULL, -2);
        Check.due("NONE", TimedPair.NONE, -4);
        same("methods", seenMethods(), METHODS);
        same("constants", seenFields(), CONSTANTS);
        Check.due("constructors", TimedPair.class.getDeclaredConstructors().length, 1);
        Check.due("public constructors without arguments", TimedPair.class.getConstructors()[0].getParameterCount(), 0);
        Check.due("the class is public and final", TimedPair.class.getModifiers(), Modifier.PUBLIC | Modifier.FINAL);
        Check.due("nested classes", TimedPair.class.getDeclaredClasses().length, 0);
        Check.finish();
    }

    private static Set<String> seenMethods() {
        Set<String> seen = new TreeSet<>();
        for (Method method : TimedPair.class.getDeclaredMethods()) {
            if (!Modifier.isPrivate(method.getModifiers())) {
                seen.add(method.getName() + "/" + method.getParameterCount());
                Check.due(method.getName() + " is public", method.getModifiers(), Modifier.PUBLIC);
                Check.due(method.getName() + " answers int", method.getReturnType() == int.class ? 1 : 0, 1);
            }
        }
        return seen;
    }

    private static Set<String> seenFields() {
        Set<String> seen = new TreeSet<>();
        for (Field field : TimedPair.class.getDeclaredFields()) {
            if (!Modifier.isPrivate(field.getModifiers())) {
                seen.add(field.getName());
            }
        }
        return seen;
    }

    private static void same(String what, Set<String> seen, String[] due) {
        if (!seen.equals(new TreeSet<>(Arrays.asList(due)))) {
            Check.due("the " + what + " " + seen, 0, 1);
        }
    }
}
