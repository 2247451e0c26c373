import java.lang.reflect.Constructor;
import java.lang.reflect.Field;
import java.lang.reflect.Member;
import java.lang.reflect.Method;
import java.lang.reflect.Modifier;
import java.nio.file.Files;
import java.nio.file.Path;
import java.util.Arrays;
import java.util.TreeSet;
import java.util.regex.Matcher;
import java.util.regex.Pattern;

/** The public face, and those rules of LANGUAGE.md that can be seen from outside or by a plain look at the source. */
public final class FaceTest {
    private static final Check CHECK = new Check("FaceTest");
    private static final String[] FACE = {
        "int street(int,int)", "int rule(int,int)", "int house(int,int)", "int birthday(int)", "int swap(int,int)",
        "int undo()", "int type(int)", "int clear()", "int read()", "int of(int,int)", "int may(int,int)",
        "int quarrels(int)", "int away()", "int orders(int)", "int moved()", "int longest()", "int greatest(int)",
        "int chain(int,int)", "int meet()", "int next(int)", "int reading(int,int)", "int who(int)", "int tryNext()",
        "int note(int,int,int)", "int laws(int)", "int forget(int)", "int split(int)", "int odds(int)",
        "int streets(int,int)", "long part(int)", "int image(int)", "int from(int)", "int status(int)",
        "int count(int)", "long digest()"
    };

    private static String signature(Method m) {
        StringBuilder types = new StringBuilder();
        for (Class<?> type : m.getParameterTypes()) {
            types.append(types.length() == 0 ? "" : ",").append(type.getName());
        }
        return m.getReturnType().getName() + " " + m.getName() + "(" + types + ")";
    }

    private static void methods() {
        TreeSet<String> open = new TreeSet<>();
        TreeSet<String> names = new TreeSet<>();
        for (Method m : OddFridays.class.getDeclaredMethods()) {
            if (Modifier.isPublic(m.getModifiers()) && !Modifier.isStatic(m.getModifiers())) {
                open.add(signature(m));
                names.add(m.getName());
            } else {
                CHECK.so(m + " is private", Modifier.isPrivate(m.getModifiers()));
            }
        }
        TreeSet<String> due = new TreeSet<>(Arrays.asList(FACE));
        CHECK.so("methods " + open + " are " + due, open.equals(due));
        for (Class<?> c : OddFridays.class.getDeclaredClasses()) {
            CHECK.so(c + " is static", Modifier.isStatic(c.getModifiers()) || c.isInterface());
            CHECK.so(c + " is no part of the face", !Modifier.isPublic(c.getModifiers())
                && !Modifier.isProtected(c.getModifiers()));
            for (Method m : c.getDeclaredMethods()) {
                CHECK.so(m + " bears no name of the face", !names.contains(m.getName()));
            }
        }
        CHECK.so("some twelve classes", OddFridays.class.getDeclaredClasses().length <= 12);
    }

    private static void members() {
        CHECK.so("public and final", OddFridays.class.getModifiers() == (Modifier.PUBLIC | Modifier.FINAL));
        Constructor<?>[] made = OddFridays.class.getDeclaredConstructors();
        CHECK.due("constructors", made.length, 1);
        CHECK.due("its parameters", made[0].getParameterCount(), 0);
        CHECK.so("it is public", Modifier.isPublic(((Member) made[0]).getModifiers()));
        TreeSet<String> constants = new TreeSet<>();
        for (Field f : OddFridays.class.getDeclaredFields()) {
            if (Modifier.isPrivate(f.getModifiers())) {
                CHECK.so(f + " if static, is final", !Modifier.isStatic(f.getModifiers())
                    || Modifier.isFinal(f.getModifiers()));
            } else {
                constants.add(f.toString());
            }
        }
        CHECK.due("constants", constants.size(), 4);
        CHECK.due("NONE", OddFridays.NONE, -1);
        CHECK.due("BAD", OddFridays.BAD, -2);
        CHECK.due("NO", OddFridays.NO, -3);
        CHECK.due("FULL", OddFridays.FULL, -4);
    }

    private static void source(Path file) throws Exception {
        String text = Files.readString(file);
        String code = text.replaceAll("(?s)/\\*.*?\\*/", " ").replaceAll("//[^\n]*", " ")
            .replaceAll("\"[^\"\n]*\"", "\"\"");
        String banned = "\\b(throw|throws|try|catch|finally|synchronized|assert|package|var|volatile|native|Exact)\\b"
            + "|->|::|@|\\bMath\\.\\w+Exact\\b|\\bSystem\\.(?!arraycopy\\b)|\\bstatic\\s*\\{|\\bimport\\b";
        Matcher m = Pattern.compile(banned).matcher(code);
        while (m.find()) {
            CHECK.so("'" + m.group() + "' in the source", false);
        }
        for (int i = 0; i < text.length(); i++) {
            char c = text.charAt(i);
            if (c != '\n' && (c < 32 || c > 126)) {
                CHECK.so("sign " + (int) c + " in the source", false);
            }
        }
        int lines = 0;
        for (String line : code.split("\n")) {
            lines = line.matches("    (    )?}") ? 0 : lines + 1;
            lines = line.matches("    (    )?\\w.*\\{") ? 1 : lines;
            CHECK.so("short methods: " + line, lines <= 60);
        }
    }

    public static void main(String[] args) throws Exception {
        methods();
        members();
        source(Path.of(args.length > 0 ? args[0] : "src/main/java/OddFridays.java"));
        CHECK.end();
    }
}
