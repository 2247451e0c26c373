import java.lang.reflect.Constructor;
import java.lang.reflect.Field;
import java.lang.reflect.Member;
import java.lang.reflect.Method;
import java.lang.reflect.Modifier;
import java.util.Arrays;
import java.util.TreeSet;

/** The public face: LANGUAGE.md, rule 1, as it can be seen from outside. */
public final class FaceTest {
    private static final Check CHECK = new Check("FaceTest");
    private static final String[] FACE = {
        "int street(int,int)", "int rule(int,int)", "int house(int,int)", "int birthday(int)", "int swap(int,int)",
        "int undo()", "int type(int)", "int clear()", "int read()", "int of(int,int)", "int may(int,int)",
        "int quarrels(int)", "int away()", "int orders(int)", "int moved()", "int longest()", "int greatest(int)",
        "int chain(int,int)", "int meet()", "int next(int)", "int reading(int,int)", "int who(int)", "int tryNext()",
        "int note(int,int,int)", "int laws(int)", "int forget(int)", "int split(int)", "int odds(int)",
        "int streets(int,int)", "long part(int)", "int image(int)", "int from(int)", "int status(int)",
        "int count(int)", "long digest()"
    };

    private static String signature(Method m) {
        StringBuilder types = new StringBuilder();
        for (Class<?> type : m.getParameterTypes()) {
            types.append(types.length() == 0 ? "" : ",").append(type.getName());
        }
        return m.getReturnType().getName() + " " + m.getName() + "(" + types + ")";
    }

    private static void methods() {
        TreeSet<String> open = new TreeSet<>();
        for (Method m : OddFridays.class.getDeclaredMethods()) {
            if (Modifier.isPublic(m.getModifiers()) && !Modifier.isStatic(m.getModifiers())) {
                open.add(signature(m));
            } else {
                CHECK.so(m + " is private", Modifier.isPrivate(m.getModifiers()));
            }
        }
        TreeSet<String> due = new TreeSet<>(Arrays.asList(FACE));
        CHECK.so("methods " + open + " are " + due, open.equals(due));
        for (Class<?> c : OddFridays.class.getDeclaredClasses()) {
            CHECK.so(c + " is static", Modifier.isStatic(c.getModifiers()) || c.isInterface());
            CHECK.so(c + " is no part of the face", !Modifier.isPublic(c.getModifiers())
                && !Modifier.isProtected(c.getModifiers()));
        }
    }

    private static void members() {
        CHECK.so("public and final", OddFridays.class.getModifiers() == (Modifier.PUBLIC | Modifier.FINAL));
        Constructor<?>[] made = OddFridays.class.getDeclaredConstructors();
        CHECK.due("constructors", made.length, 1);
        CHECK.due("its parameters", made[0].getParameterCount(), 0);
        CHECK.so("it is public", Modifier.isPublic(((Member) made[0]).getModifiers()));
        TreeSet<String> constants = new TreeSet<>();
        for (Field f : OddFridays.class.getDeclaredFields()) {
            if (Modifier.isPrivate(f.getModifiers())) {
                CHECK.so(f + " if static, is final", !Modifier.isStatic(f.getModifiers())
                    || Modifier.isFinal(f.getModifiers()));
            } else {
                constants.add(f.toString());
            }
        }
        CHECK.due("constants", constants.size(), 4);
        CHECK.due("NONE", OddFridays.NONE, -1);
        CHECK.due("BAD", OddFridays.BAD, -2);
        CHECK.due("NO", OddFridays.NO, -3);
        CHECK.due("FULL", OddFridays.FULL, -4);
    }

    public static void main(String[] args) {
        methods();
        members();
        CHECK.end();
    }
}
