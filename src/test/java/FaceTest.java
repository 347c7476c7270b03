import java.lang.reflect.Constructor;
import java.lang.reflect.Field;
import java.lang.reflect.Method;
import java.lang.reflect.Modifier;
import java.util.ArrayList;
import java.util.HashSet;
import java.util.List;
import java.util.Set;
import java.util.TreeSet;

/** The public face is the document's, and nothing else of the class is to be seen. */
public final class FaceTest {
    private static final String[] METHODS = {
        "int duchy(int,int,int,int)", "int ofEater(int,int)", "int look(int)", "int pull(int,int)", "int sour(int)",
        "int crave(int,int)", "int fasts()", "int yellow(int,int)", "int found(int,int,int)",
        "int plan(int,int,int,int,int)", "int best(int,int)", "int village()", "int smile(int)",
        "int reading(int,int,int,boolean)", "int back(int)", "int stays(int)", "int kinds(int)", "int sours()",
        "long odds(int,int,int)", "int sheet(int,int,int)", "int lose(int)", "int put(int,int,int)",
        "long cell(int,int,int)", "int copy(int,int,int,int,int)", "int tell(int)", "int sniff(int)",
        "int as(int,int)", "int trace()", "int fault()", "int many(int)"};

    public static void main(String[] args) {
        constants();
        onlyTheFaceIsPublic();
        noPrivateMethodBearsAPublicName();
        classesInside();
        Due.end();
    }

    private static void constants() {
        Due.is(-1, MustardFast.UNKNOWN, "UNKNOWN");
        Due.is(-2, MustardFast.OUTSIDE, "OUTSIDE");
        Due.is(-3, MustardFast.STATE, "STATE");
        Due.is(-4, MustardFast.FULL, "FULL");
        Due.is(-9, MustardFast.NONE, "NONE");
        Due.is(Long.MIN_VALUE, MustardFast.LOST, "LOST");
    }

    private static void onlyTheFaceIsPublic() {
        Set<String> methods = new TreeSet<>();
        for (Method m : MustardFast.class.getDeclaredMethods()) {
            if (!Modifier.isPrivate(m.getModifiers())) {
                methods.add(shape(m));
            }
        }
        Due.holds(methods.equals(new TreeSet<>(List.of(METHODS))), "methods seen: " + methods);

        Set<String> fields = new TreeSet<>();
        for (Field f : MustardFast.class.getDeclaredFields()) {
            if (!Modifier.isPrivate(f.getModifiers())) {
                fields.add(f.getName());
            }
        }
        Due.holds(fields.equals(Set.of("UNKNOWN", "OUTSIDE", "STATE", "FULL", "NONE", "LOST")), "fields: " + fields);

        Constructor<?>[] constructors = MustardFast.class.getDeclaredConstructors();
        Due.is(1, constructors.length, "constructors");
        Due.holds(Modifier.isPublic(constructors[0].getModifiers()), "the constructor is public");
        Due.holds(Modifier.isFinal(MustardFast.class.getModifiers()), "the class is final");
    }

    private static String shape(Method m) {
        List<String> parameters = new ArrayList<>();
        for (Class<?> p : m.getParameterTypes()) {
            parameters.add(p.getName());
        }
        return m.getReturnType().getName() + " " + m.getName() + "(" + String.join(",", parameters) + ")";
    }

    private static void noPrivateMethodBearsAPublicName() {
        Set<String> faceNames = new HashSet<>();
        for (String m : METHODS) {
            faceNames.add(m.substring(m.indexOf(' ') + 1, m.indexOf('(')));
        }
        List<Class<?>> all = new ArrayList<>(List.of(MustardFast.class.getDeclaredClasses()));
        all.add(MustardFast.class);
        for (Class<?> c : all) {
            for (Method m : c.getDeclaredMethods()) {
                boolean isFace = c == MustardFast.class && Modifier.isPublic(m.getModifiers());
                Due.holds(isFace || !faceNames.contains(m.getName()), c.getName() + " has a hidden " + m.getName());
            }
        }
    }

    private static void classesInside() {
        for (Class<?> c : MustardFast.class.getDeclaredClasses()) {
            int m = c.getModifiers();
            Due.holds(Modifier.isStatic(m) && !Modifier.isPublic(m) && !Modifier.isProtected(m), c.getName());
        }
    }
}
