import java.lang.reflect.Constructor;
import java.lang.reflect.Field;
import java.lang.reflect.Method;
import java.lang.reflect.Modifier;
import java.util.Arrays;
import java.util.HashSet;
import java.util.List;
import java.util.Set;
import java.util.TreeSet;

/** The class has the document's face and no other member that is not private. */
final class FaceTest {
    private static final List<String> FACE = List.of(
        "int part(int, int, int, int)", "int drop()", "int gear(int, int, int)", "int ungear(int)", "int shaft(int)",
        "int set(int, int, int)", "int kind(int, int)", "int of(int, int)", "int taken(int, int)", "int jam(int, int)",
        "long speed(int, int)", "int turn(int)", "long height()", "long heightAt(int)", "long heightOf(int, int)",
        "int place(int, int)", "int waters(int, int, int)", "int water(int, int, int, int)",
        "int tells(int, int, int)", "int refound(int, int, int, int, int)", "int film(int, int, int)",
        "int nearest(int, int)", "long off(int, int, int, int)", "int alike(int)", "long drawn(int, int)",
        "int chance(int, int, int, int, int)", "int feed(int, int, int, int, int, int)", "int text()", "int image()",
        "int back()", "int load(int, int, int, int)", "int count(int)", "int sheet(int, int, int)",
        "int put(int, int, long)", "long item(int, int)", "int copy(int, int, int, int, int)");

    private FaceTest() { }

    static void all() {
        Check.test("the face: methods", FaceTest::methods);
        Check.test("the face: constants and constructor", FaceTest::constants);
    }

    private static String signature(Method m) {
        StringBuilder b = new StringBuilder(m.getReturnType().getName()).append(' ').append(m.getName()).append('(');
        b.append(String.join(", ", Arrays.stream(m.getParameterTypes()).map(Class::getName).toList()));
        return b.append(')').toString();
    }

    private static void methods() {
        Set<String> open = new TreeSet<>();
        Set<String> names = new HashSet<>();
        for (Method m : TideWheels.class.getDeclaredMethods()) {
            if (!Modifier.isPrivate(m.getModifiers())) {
                open.add(signature(m));
                names.add(m.getName());
                Check.due(m.getName() + " is public and of the object", m.getModifiers(), Modifier.PUBLIC);
            }
        }
        Check.due("methods as the document says: " + open, open.equals(new TreeSet<>(FACE)) ? 1 : 0, 1);
        for (Class<?> c : TideWheels.class.getDeclaredClasses()) {
            Check.due(c + " is static", Modifier.isStatic(c.getModifiers()) ? 1 : 0, 1);
            Check.due(c + " isn't public", Modifier.isPublic(c.getModifiers()) ? 1 : 0, 0);
        }
        for (Method m : TideWheels.class.getDeclaredMethods()) {
            boolean hides = Modifier.isPrivate(m.getModifiers()) && names.contains(m.getName());
            Check.due(m.getName() + " bears a public one's name", hides ? 1 : 0, 0);
        }
    }

    private static void constants() {
        Check.due("public and final", TideWheels.class.getModifiers(), Modifier.PUBLIC | Modifier.FINAL);
        Constructor<?>[] made = TideWheels.class.getDeclaredConstructors();
        Check.due("one constructor", made.length, 1);
        Check.due("it is public", made[0].getModifiers(), Modifier.PUBLIC);
        Check.due("it takes nothing", made[0].getParameterCount(), 0);
        Set<String> open = new TreeSet<>();
        for (Field f : TideWheels.class.getDeclaredFields()) {
            if (!Modifier.isPrivate(f.getModifiers())) {
                open.add(f.getType().getName() + " " + f.getName());
                int due = Modifier.PUBLIC | Modifier.STATIC | Modifier.FINAL;
                Check.due(f.getName(), f.getModifiers(), due);
            }
        }
        Set<String> face = new TreeSet<>(List.of("int NONE", "int BAD", "int STATE", "int FULL", "long NO"));
        Check.due("constants as the document says: " + open, open.equals(face) ? 1 : 0, 1);
        Check.due("NONE", TideWheels.NONE, -1);
        Check.due("BAD", TideWheels.BAD, -2);
        Check.due("STATE", TideWheels.STATE, -3);
        Check.due("FULL", TideWheels.FULL, -4);
        Check.due("NO", TideWheels.NO, -9223372036854775807L - 1);
    }
}
