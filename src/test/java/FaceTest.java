import java.lang.reflect.Constructor;
import java.lang.reflect.Field;
import java.lang.reflect.Method;
import java.lang.reflect.Modifier;
import java.util.Set;
import java.util.TreeSet;

/** The public face is the document's, and nothing else can be seen from outside. */
public final class FaceTest {
    private static final Set<String> METHODS = Set.of(
        "int begins(int)", "int feeds(int,int)", "int line(int,int,int,int)", "int drops(int)",
        "int switches(int,int)", "int sets(int,int,int)", "int of(int,int)", "long flow(int,int)",
        "long angle(int,int)", "long factor(int,int,int)", "int island(int)", "long trees(int)", "int fed(int)",
        "long outage(int,int,int)", "long spread(int,int,int)", "long worst(int,int)", "int ranked(int)",
        "long pair(int,int)", "int shift(int)", "int transfer(int,int,int)", "int count(int)", "int type(int)",
        "int clear()", "int does()", "int back()", "int told(int)", "long digest()");

    private static int wrong = 0;

    public static void main(String[] args) throws IllegalAccessException {
        Class<?> c = OutageScreen.class;
        due("the class is public and final", Modifier.isPublic(c.getModifiers()) && Modifier.isFinal(c.getModifiers()));
        due("the class has no package", c.getPackageName().isEmpty());
        methods(c);
        constants(c);
        for (Constructor<?> made : c.getDeclaredConstructors()) {
            due("the one constructor is OutageScreen()",
                Modifier.isPublic(made.getModifiers()) && made.getParameterCount() == 0);
        }
        for (Class<?> inside : c.getDeclaredClasses()) {
            int is = inside.getModifiers();
            due(inside + " is static and not public",
                Modifier.isStatic(is) && !Modifier.isPublic(is) && !Modifier.isProtected(is));
        }
        System.out.println("FaceTest: " + wrong + " wrong");
        if (wrong != 0) {
            System.exit(1);
        }
    }

    private static void methods(Class<?> c) {
        Set<String> seen = new TreeSet<>();
        Set<String> names = new TreeSet<>();
        for (Method m : c.getDeclaredMethods()) {
            if (!Modifier.isPrivate(m.getModifiers())) {
                String full = m.toGenericString();
                seen.add(full.replace("public ", "").replace("OutageScreen.", ""));
                names.add(m.getName());
            }
        }
        due("the methods are " + METHODS + ", not " + seen, seen.equals(METHODS));
        for (Method m : c.getDeclaredMethods()) {
            if (Modifier.isPrivate(m.getModifiers())) {
                due("no private method is named " + m.getName(), !names.contains(m.getName()));
            }
        }
    }

    private static void constants(Class<?> c) throws IllegalAccessException {
        Set<String> seen = new TreeSet<>();
        for (Field f : c.getDeclaredFields()) {
            if (Modifier.isStatic(f.getModifiers())) {
                due(f + " is final", Modifier.isFinal(f.getModifiers()));
            }
            if (!Modifier.isPrivate(f.getModifiers())) {
                due(f + " is public static int", Modifier.isPublic(f.getModifiers())
                    && Modifier.isStatic(f.getModifiers()) && f.getType() == int.class);
                seen.add(f.getName() + " " + f.getInt(null));
            }
        }
        due("the constants, not " + seen, seen.equals(Set.of("NONE -1", "BAD -2", "NO -3", "FULL -4")));
    }

    private static void due(String what, boolean holds) {
        if (!holds) {
            wrong++;
            System.out.println("does not hold: " + what);
        }
    }
}
