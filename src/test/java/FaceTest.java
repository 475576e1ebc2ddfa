import java.lang.reflect.Constructor;
import java.lang.reflect.Field;
import java.lang.reflect.Method;
import java.lang.reflect.Modifier;
import java.util.ArrayList;
import java.util.Arrays;
import java.util.List;
import java.util.TreeSet;

/** The face of the class: what the document lists, and no more (LANGUAGE.md, rules 1 and 2). */
public final class FaceTest {
    private static final List<String> METHODS = List.of(
            "int behind(int,int)", "int bellows(int,int)", "int done()",
            "int family(int,int,int,int)", "int fault()", "int fits(int)", "int forget()",
            "long gusts(int,int,int,int)", "int image(int)", "int judge(int)", "int lay(int,int)",
            "int leave(int)", "int lies(int)", "int lovers(int,int,int)", "int over(int,int,int)",
            "int pays(int,int)", "int principal(int,int)", "int restore(int)", "int ruined(int)",
            "int say(int)", "int seen(int,int)", "int set(int,int)", "int tax(int,int)",
            "int told(int)", "int total(int)", "int tries(int)", "int wipe()",
            "int year(int,int,int)");

    public static void main(String[] args) {
        constants();
        theClass();
        fields();
        methods();
        classesInside();
        Checks.end();
    }

    private static void constants() {
        Checks.due("UNKNOWN", SeedBank.UNKNOWN, -1);
        Checks.due("OUTSIDE", SeedBank.OUTSIDE, -2);
        Checks.due("STATE", SeedBank.STATE, -3);
        Checks.due("FULL", SeedBank.FULL, -4);
        Checks.due("NO", SeedBank.NO, -5);
        Checks.due("NONE", SeedBank.NONE, -6);
        Checks.due("GONE", SeedBank.GONE, -1000000000000000000L);
    }

    private static void theClass() {
        int modifiers = SeedBank.class.getModifiers();
        Checks.holds("public", Modifier.isPublic(modifiers));
        Checks.holds("final", Modifier.isFinal(modifiers));
        Checks.holds("no class above it", SeedBank.class.getSuperclass() == Object.class);
        Checks.due("interfaces", SeedBank.class.getInterfaces().length, 0);
        Constructor<?>[] made = SeedBank.class.getDeclaredConstructors();
        Checks.due("constructors", made.length, 1);
        Checks.holds("a public constructor", Modifier.isPublic(made[0].getModifiers()));
        Checks.due("its parameters", made[0].getParameterCount(), 0);
    }

    private static void fields() {
        List<String> open = new ArrayList<>();
        for (Field field : SeedBank.class.getDeclaredFields()) {
            if (!Modifier.isPrivate(field.getModifiers())) {
                open.add(field.getName());
                Checks.holds(field.getName() + " is a public constant",
                        Modifier.isPublic(field.getModifiers())
                        && Modifier.isStatic(field.getModifiers())
                        && Modifier.isFinal(field.getModifiers()));
            }
            if (Modifier.isStatic(field.getModifiers())) {
                Checks.holds(field.getName() + " is final", Modifier.isFinal(field.getModifiers()));
            }
        }
        open.sort(null);
        Checks.holds("the constants are " + open,
                open.equals(List.of("FULL", "GONE", "NO", "NONE", "OUTSIDE", "STATE", "UNKNOWN")));
    }

    private static String faceOf(Method method) {
        StringBuilder text = new StringBuilder();
        for (Class<?> type : method.getParameterTypes()) {
            text.append(text.length() == 0 ? "" : ",").append(type.getName());
        }
        return method.getReturnType() + " " + method.getName() + "(" + text + ")";
    }

    private static void methods() {
        TreeSet<String> open = new TreeSet<>();
        for (Method method : SeedBank.class.getDeclaredMethods()) {
            if (!Modifier.isPrivate(method.getModifiers())) {
                Checks.holds(method + " is public", Modifier.isPublic(method.getModifiers()));
                Checks.holds(method + " is not static", !Modifier.isStatic(method.getModifiers()));
                open.add(faceOf(method));
            }
        }
        TreeSet<String> wanted = new TreeSet<>(METHODS);
        Checks.holds("the methods are " + open, open.equals(wanted));
    }

    private static void classesInside() {
        TreeSet<String> names = new TreeSet<>();
        METHODS.forEach(m -> names.add(m.substring(m.indexOf(' ') + 1, m.indexOf('('))));
        List<Class<?>> all = new ArrayList<>(Arrays.asList(SeedBank.class.getDeclaredClasses()));
        Checks.holds("at most twelve classes", all.size() + 1 <= 12);
        for (Class<?> inside : all) {
            int modifiers = inside.getModifiers();
            Checks.holds(inside + " is static", Modifier.isStatic(modifiers));
            Checks.holds(inside + " is not open",
                    !Modifier.isPublic(modifiers) && !Modifier.isProtected(modifiers));
            for (Method method : inside.getDeclaredMethods()) {
                Checks.holds(method + " has a name of its own", !names.contains(method.getName()));
            }
            for (Field field : inside.getDeclaredFields()) {
                Checks.holds(field + " is final if it is static",
                        !Modifier.isStatic(field.getModifiers())
                        || Modifier.isFinal(field.getModifiers()));
            }
        }
        for (Method method : SeedBank.class.getDeclaredMethods()) {
            if (Modifier.isPrivate(method.getModifiers())) {
                Checks.holds(method + " has a name of its own", !names.contains(method.getName()));
            }
        }
    }
}
