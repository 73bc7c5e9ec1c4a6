import java.lang.reflect.Constructor;
import java.lang.reflect.Field;
import java.lang.reflect.Method;
import java.lang.reflect.Modifier;
import java.util.Arrays;
import java.util.Set;
import java.util.TreeSet;

/** A new object (promise 1), and the face: all that the document names and nothing else (LANGUAGE.md, rule 1). */
final class FaceTest {
    private static final Set<String> FACE = new TreeSet<>(Arrays.asList(
        "int feed(long, long, long)", "int land()", "int say()", "int order(int)", "int ask()", "boolean unsay(int)",
        "boolean undo()", "int dawn(int)", "int thing(int)", "int verb(int)", "int saying(int, int)",
        "int ordered(int, int)", "int worlds(int)", "int left(int)", "int holds(int, int, int)", "int meant(int)",
        "int same(int, int)", "int asked()", "int sure(int, int)", "int clash()", "int shortest(int, int)",
        "int two(int, int)", "int riddle(int)", "int rings(int)", "int rests(int)", "int sayable(int, int)",
        "int cover(int)", "boolean see(int, int, boolean)", "int knows()", "int tells(int)",
        "int year(int, int, int)", "boolean mark(int, boolean)", "int count(int)"));
    private static final Due DUE = new Due("FaceTest");

    public static void main(String[] args) {
        newObject();
        members();
        insideClasses();
        DUE.end();
    }

    private static void newObject() {
        DUE.is("NONE", OneVerb.NONE, -1);
        OneVerb x = new OneVerb();
        int[] counts = {2, 0, 0, 0, 0, 0, 0, 0, 0, 0, 0, 0, 1, 0, -1};
        for (int what = 0; what < counts.length; what++) {
            DUE.is("count(" + what + ") of a new object", x.count(what), counts[what]);
        }
        DUE.is("worlds(0) of a new object", x.worlds(0), 1);
        DUE.is("worlds(1) of a new object", x.worlds(1), 1);
        DUE.is("left(0) of a new object", x.left(0), 1);
        DUE.is("left(1) of a new object", x.left(1), -1);
        DUE.is("verb(0) of a new object", x.verb(0), -1);
        DUE.is("knows() of a new object", x.knows(), 0);
        DUE.is("tells(0) of a new object", x.tells(0), -1);
        DUE.is("sure(0, 0) of a new object", x.sure(0, 0), -1);
        DUE.is("undo() of a new object", x.undo(), false);
    }

    private static void members() {
        DUE.is("the class is public and final", OneVerb.class.getModifiers(), Modifier.PUBLIC | Modifier.FINAL);
        Set<String> found = new TreeSet<>();
        Set<String> names = new TreeSet<>();
        for (Method method : OneVerb.class.getDeclaredMethods()) {
            if (!Modifier.isPrivate(method.getModifiers()) && !method.isSynthetic()) {
                String types = Arrays.toString(method.getParameterTypes());
                found.add(method.getReturnType() + " " + method.getName() + "(" + types.substring(1, types.length() - 1)
                    + ")");
                names.add(method.getName());
                DUE.is(method + " is public", Modifier.isPublic(method.getModifiers()), true);
                DUE.is(method + " is no static one", Modifier.isStatic(method.getModifiers()), false);
            }
        }
        DUE.is("the methods " + found, found.equals(FACE), true);
        for (Method method : OneVerb.class.getDeclaredMethods()) {
            if (Modifier.isPrivate(method.getModifiers())) {
                DUE.is(method.getName() + " is no name of the face", names.contains(method.getName()), false);
            }
        }
        for (Field field : OneVerb.class.getDeclaredFields()) {
            boolean isConstant = field.getName().equals("NONE");
            DUE.is(field + " is private", Modifier.isPrivate(field.getModifiers()), !isConstant);
            DUE.is(field + " if static is final", Modifier.isStatic(field.getModifiers())
                && !Modifier.isFinal(field.getModifiers()), false);
        }
        Constructor<?>[] constructors = OneVerb.class.getDeclaredConstructors();
        DUE.is("constructors", constructors.length, 1);
        DUE.is("the constructor takes nothing", constructors[0].getParameterCount(), 0);
        DUE.is("the constructor is public", Modifier.isPublic(constructors[0].getModifiers()), true);
    }

    private static void insideClasses() {
        for (Class<?> inside : OneVerb.class.getDeclaredClasses()) {
            DUE.is(inside + " is static", Modifier.isStatic(inside.getModifiers()), true);
            DUE.is(inside + " is public", Modifier.isPublic(inside.getModifiers()), false);
            for (Method method : inside.getDeclaredMethods()) {
                String name = method.getName();
                boolean isOfFace = FACE.stream().anyMatch(text -> text.contains(" " + name + "("));
                DUE.is(inside + "." + name + " is no name of the face", isOfFace, false);
            }
        }
    }
}
