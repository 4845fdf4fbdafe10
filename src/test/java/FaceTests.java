import java.lang.reflect.Constructor;
import java.lang.reflect.Field;
import java.lang.reflect.Method;
import java.lang.reflect.Modifier;
import java.util.Set;
import java.util.TreeSet;

/** The face is the document's, with nothing beside it that others could see. */
public final class FaceTests {
    private static final Set<String> FACE = Set.of(
        "public static final int TorsionDesk.NONE",
        "public TorsionDesk()",
        "public int TorsionDesk.curve(int,int,int,int,int)"
            + " throws java.lang.IllegalArgumentException,java.lang.ArithmeticException",
        "public long TorsionDesk.discriminant()",
        "public int TorsionDesk.candidate(int)",
        "public int TorsionDesk.points()",
        "public int TorsionDesk.point(int,int)",
        "public int TorsionDesk.find(int,int)",
        "public int TorsionDesk.sum(int,int)",
        "public int TorsionDesk.times(int,int)",
        "public int TorsionDesk.structure(int)",
        "public int TorsionDesk.modulo(int) throws java.lang.IllegalArgumentException,"
            + "java.lang.IllegalStateException,java.lang.ArithmeticException",
        "public int TorsionDesk.bound(int)");

    private FaceTests() {
    }

    public static void main(String[] args) {
        Check check = new Check();
        check.about("The public face", "public final class TorsionDesk");
        Class<?> desk = TorsionDesk.class;
        check.holds("public and final", Modifier.isPublic(desk.getModifiers()) && Modifier.isFinal(desk.getModifiers()));
        check.due("NONE", TorsionDesk.NONE, -1);
        members(check, desk);
        check.about("LANGUAGE.md", "rules 1 and 5");
        namesOfPrivateMethods(check, desk);
        staticFields(check, desk);
        classesInside(check, desk);
        check.end();
    }

    private static void members(Check check, Class<?> desk) {
        Set<String> seen = new TreeSet<>();
        for (Field field : desk.getDeclaredFields()) {
            if (!Modifier.isPrivate(field.getModifiers())) {
                seen.add(field.toString());
            }
        }
        for (Constructor<?> constructor : desk.getDeclaredConstructors()) {
            seen.add(constructor.toString());
        }
        for (Method method : desk.getDeclaredMethods()) {
            if (!Modifier.isPrivate(method.getModifiers())) {
                seen.add(method.toString());
            }
        }
        for (String member : seen) {
            check.holds("in the document: " + member, FACE.contains(member));
        }
        for (String member : FACE) {
            check.holds("in the class: " + member, seen.contains(member));
        }
    }

    private static void namesOfPrivateMethods(Check check, Class<?> desk) {
        Set<String> open = new TreeSet<>();
        for (Method method : desk.getDeclaredMethods()) {
            if (Modifier.isPublic(method.getModifiers())) {
                open.add(method.getName());
            }
        }
        for (Method method : desk.getDeclaredMethods()) {
            if (Modifier.isPrivate(method.getModifiers())) {
                check.holds("a name of its own: " + method, !open.contains(method.getName()));
            }
        }
    }

    private static void staticFields(Check check, Class<?> type) {
        for (Field field : type.getDeclaredFields()) {
            int modifiers = field.getModifiers();
            check.holds("static, so final: " + field, !Modifier.isStatic(modifiers) || Modifier.isFinal(modifiers));
        }
    }

    private static void classesInside(Check check, Class<?> desk) {
        for (Class<?> inside : desk.getDeclaredClasses()) {
            int modifiers = inside.getModifiers();
            check.holds("static: " + inside, Modifier.isStatic(modifiers));
            check.holds("not open: " + inside, !Modifier.isPublic(modifiers) && !Modifier.isProtected(modifiers));
            staticFields(check, inside);
        }
    }
}
