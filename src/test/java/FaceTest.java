import java.lang.reflect.Constructor;
import java.lang.reflect.Field;
import java.lang.reflect.Method;
import java.lang.reflect.Modifier;
import java.util.Set;
import java.util.TreeSet;

/** The public face is the document's, and nothing more of the class can be seen. */
public final class FaceTest {
    private static final String[] METHODS = {
        "public int WitnessedMap.put(int,int)",
        "public boolean WitnessedMap.remove(int)",
        "public int WitnessedMap.get(int)",
        "public int WitnessedMap.size()",
        "public int WitnessedMap.height()",
        "public int WitnessedMap.root()",
        "public int WitnessedMap.within(int,int)",
        "public int WitnessedMap.prove(int,int,boolean)",
        "public int WitnessedMap.token(int)",
        "public boolean WitnessedMap.alter(int,int)",
        "public boolean WitnessedMap.trim(int)",
        "public int WitnessedMap.check(int,int,int)",
        "public int WitnessedMap.count(int,int,int)",
        "public int WitnessedMap.row(int,int)",
        "public int WitnessedMap.digest(int,int,int,int)",
    };

    private FaceTest() {
    }

    public static void main(String[] args) {
        Class<?> face = WitnessedMap.class;
        Expect.same("public and final", face.getModifiers(), Modifier.PUBLIC | Modifier.FINAL);
        Set<String> seen = new TreeSet<>();
        for (Constructor<?> constructor : face.getDeclaredConstructors()) {
            seen.add(constructor.toString());
        }
        Expect.same("constructors", seen.toString(), "[public WitnessedMap(int)]");
        Expect.same("methods", openMethods(face).toString(), new TreeSet<>(Set.of(METHODS)).toString());
        for (Field field : face.getDeclaredFields()) {
            Expect.same("private field " + field, Modifier.isPrivate(field.getModifiers()), true);
        }
        for (Class<?> inside : face.getDeclaredClasses()) {
            Expect.same("static " + inside, Modifier.isStatic(inside.getModifiers()), true);
            Expect.same("not public " + inside, Modifier.isPublic(inside.getModifiers()), false);
            namesAreNotTheFaces(inside, face);
        }
        Expect.finish();
    }

    private static Set<String> openMethods(Class<?> face) {
        Set<String> open = new TreeSet<>();
        for (Method method : face.getDeclaredMethods()) {
            if (!Modifier.isPrivate(method.getModifiers())) {
                open.add(method.toString());
            }
        }
        return open;
    }

    private static void namesAreNotTheFaces(Class<?> inside, Class<?> face) {
        for (Method method : inside.getDeclaredMethods()) {
            for (Method open : face.getMethods()) {
                Expect.same("name of " + method, method.getName().equals(open.getName()), false);
            }
        }
    }
}
