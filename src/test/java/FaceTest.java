import java.io.IOException;
import java.lang.reflect.Constructor;
import java.lang.reflect.Field;
import java.lang.reflect.Method;
import java.lang.reflect.Modifier;
import java.nio.file.Files;
import java.nio.file.Path;
import java.util.TreeSet;
import java.util.regex.Matcher;
import java.util.regex.Pattern;

/** The public face, and those rules of LANGUAGE.md that can be seen from outside or by their words. */
public final class FaceTest {
    private static final String[] FACE = {
        "int feed(int,int,int,int,int)", "int packet(int,long)", "int clear()", "int pages(int,int,int)",
        "int elements(int,int,int,boolean)", "int readPages(int)", "int readElements(int)", "int wrong(int)",
        "int turn()", "int count(int)", "int size(int)", "long time(int)", "int octet(int,int)", "int out(int)",
        "boolean patch(int,int)", "boolean sum(int)",
    };

    public static void main(String[] args) throws IOException {
        methods();
        fieldsAndConstructors();
        classesInside();
        words();
        Checks.end();
    }

    private static void methods() {
        TreeSet<String> want = new TreeSet<>();
        TreeSet<String> names = new TreeSet<>();
        for (String one : FACE) {
            want.add(one);
            names.add(one.substring(one.indexOf(' ') + 1, one.indexOf('(')));
        }
        TreeSet<String> got = new TreeSet<>();
        for (Method method : StreamRemuxer.class.getDeclaredMethods()) {
            if (Modifier.isPrivate(method.getModifiers())) {
                Checks.due("a private " + method.getName(), names.contains(method.getName()), false);
            } else {
                Checks.due(method + " is public", Modifier.isPublic(method.getModifiers()), true);
                got.add(told(method));
            }
        }
        Checks.due("methods", got.toString(), want.toString());
    }

    private static String told(Method method) {
        StringBuilder made = new StringBuilder(method.getReturnType() + " " + method.getName() + "(");
        Class<?>[] kinds = method.getParameterTypes();
        for (int i = 0; i < kinds.length; i++) {
            made.append(i > 0 ? "," : "").append(kinds[i]);
        }
        return made.append(')').toString();
    }

    private static void fieldsAndConstructors() {
        Checks.due("public final", StreamRemuxer.class.getModifiers(), Modifier.PUBLIC | Modifier.FINAL);
        for (Field field : StreamRemuxer.class.getDeclaredFields()) {
            boolean isFace = field.getName().equals("NONE");
            Checks.due(field + " is private", Modifier.isPrivate(field.getModifiers()), !isFace);
            checkStatic(field);
        }
        Constructor<?>[] made = StreamRemuxer.class.getDeclaredConstructors();
        Checks.due("constructors", made.length, 1);
        Checks.due("it is public", Modifier.isPublic(made[0].getModifiers()), true);
        Checks.due("it takes nothing", made[0].getParameterCount(), 0);
    }

    private static void classesInside() {
        Class<?>[] inside = StreamRemuxer.class.getDeclaredClasses();
        Checks.due("at most twelve classes", inside.length < 12, true);
        for (Class<?> one : inside) {
            Checks.due(one + " is static", Modifier.isStatic(one.getModifiers()), true);
            Checks.due(one + " is public", Modifier.isPublic(one.getModifiers()), false);
            for (Field field : one.getDeclaredFields()) {
                checkStatic(field);
            }
            for (Method method : one.getDeclaredMethods()) {
                Checks.due(method + " takes at most seven", method.getParameterCount() <= 7, true);
            }
        }
    }

    private static void checkStatic(Field field) {
        if (Modifier.isStatic(field.getModifiers())) {
            Checks.due(field + " is final", Modifier.isFinal(field.getModifiers()), true);
        }
    }

    private static void words() throws IOException {
        String program = Files.readString(Path.of("src/main/java/StreamRemuxer.java"));
        String code = program.replaceAll("(?s)/\\*.*?\\*/", "").replaceAll("//[^\n]*", "");
        Pattern ruledOut = Pattern.compile("\\b(throw|throws|try|catch|finally|synchronized|assert|import|package|"
                + "native|volatile|transient|protected|\\w*Exact)\\b|->|::|\\bstatic\\s*\\{");
        Matcher found = ruledOut.matcher(code);
        while (found.find()) {
            Checks.due("LANGUAGE.md rules it out: " + found.group(), true, false);
        }
        Checks.due("the program was read", code.contains("class StreamRemuxer"), true);
    }
}
