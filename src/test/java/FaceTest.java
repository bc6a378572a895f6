import java.io.IOException;
import java.lang.reflect.Constructor;
import java.lang.reflect.Field;
import java.lang.reflect.Method;
import java.lang.reflect.Modifier;
import java.nio.file.Files;
import java.nio.file.Path;
import java.util.Set;
import java.util.TreeSet;
import java.util.regex.Matcher;
import java.util.regex.Pattern;

/** The public face is the document's, and the file keeps to what LANGUAGE.md leaves, as far as a look can tell. */
public final class FaceTest {
    private static final String[] FACE = {
        "int feed(int)", "int end(int)", "int text()", "int fault()", "int rule(int)", "int one(int, int)",
        "int turn(int)", "int alter(int, int, int)", "int takes(int)", "int load(int)", "int rota(int)", "int cut(int)",
        "int hours(int)", "int runs(int, int)", "int ahead(int, int)", "int under(int)", "int light(int)",
        "int order(int)", "int extra(int, int)", "int spare(int, int)", "int swap(int, int)", "int most(int)",
        "int need(int, int)", "int kind(int, int, int)", "long luck(int, int, int, int)", "long mean(int, int, int)",
        "int see(int, int, int)", "int forget(int)", "int kinds(int)", "int griefs(int)", "int ask(int, int)",
        "int drift(int, int, int)", "int keep(int)", "int back(int)", "int sheet(int, int, int)",
        "int lay(int, int, int)", "int read(int, int, int, int)", "int torn()", "int count(int)"};

    private static int wrong = 0;

    private static void check(boolean right, String what) {
        if (!right) {
            wrong++;
            System.out.println(what);
        }
    }

    public static void main(String[] args) throws IOException {
        Class<?> face = BarrowGrief.class;
        check(Modifier.isPublic(face.getModifiers()) && Modifier.isFinal(face.getModifiers()), "the class is public, final");
        constants(face);
        methods(face);
        Constructor<?>[] made = face.getDeclaredConstructors();
        check(made.length == 1 && Modifier.isPublic(made[0].getModifiers()) && made[0].getParameterCount() == 0,
            "one public constructor");
        for (Class<?> inner : face.getDeclaredClasses()) {
            check(Modifier.isStatic(inner.getModifiers()) && !Modifier.isPublic(inner.getModifiers())
                && !Modifier.isProtected(inner.getModifiers()), inner + " is static and not public");
        }
        source();
        System.out.println(wrong == 0 ? "the face is as due" : wrong + " things are not as due");
        if (wrong != 0) {
            System.exit(1);
        }
    }

    private static void constants(Class<?> face) {
        Set<String> seen = new TreeSet<>();
        for (Field f : face.getDeclaredFields()) {
            if (Modifier.isPrivate(f.getModifiers())) {
                continue;
            }
            check(f.getModifiers() == (Modifier.PUBLIC | Modifier.STATIC | Modifier.FINAL) && f.getType() == int.class,
                f + " is a public constant of int");
            seen.add(f.getName());
        }
        check(seen.equals(Set.of("BAD", "STATE", "FULL", "NONE")), "constants: " + seen);
    }

    private static String told(Method m) {
        StringBuilder s = new StringBuilder(m.getReturnType().getName()).append(' ').append(m.getName()).append('(');
        for (int i = 0; i < m.getParameterCount(); i++) {
            s.append(i == 0 ? "" : ", ").append(m.getParameterTypes()[i].getName());
        }
        return s.append(')').toString();
    }

    private static void methods(Class<?> face) {
        Set<String> due = new TreeSet<>(Set.of(FACE));
        Set<String> seen = new TreeSet<>();
        Set<String> names = new TreeSet<>();
        for (Method m : face.getDeclaredMethods()) {
            if (!Modifier.isPrivate(m.getModifiers())) {
                check(m.getModifiers() == Modifier.PUBLIC, m + " is public alone");
                seen.add(told(m));
                names.add(m.getName());
            }
        }
        check(seen.equals(due), "methods: " + seen);
        for (Method m : face.getDeclaredMethods()) {
            check(!Modifier.isPrivate(m.getModifiers()) || !names.contains(m.getName()), m + " bears a public name");
        }
        for (Class<?> inner : face.getDeclaredClasses()) {
            for (Method m : inner.getDeclaredMethods()) {
                check(!names.contains(m.getName()), m + " bears a public name");
            }
        }
    }

    private static void source() throws IOException {
        String text = Files.readString(Path.of("src/main/java/BarrowGrief.java"));
        String code = text.replaceAll("(?s)/\\*.*?\\*/", " ").replaceAll("//[^\n]*", " ").replaceAll("\"[^\"]*\"", "\"\"");
        Matcher m = Pattern.compile("\\b(throws?|try|catch|finally|synchronized|assert|volatile|native|package|Object|"
            + "Random|System\\.(?!arraycopy)\\w+|Thread|hashCode|toString|equals|\\w+Exact|var|yield|sealed)\\b"
            + "|->|::|@").matcher(code);
        while (m.find()) {
            check(false, "the file has " + m.group());
        }
        Matcher imports = Pattern.compile("import ([^;]*);").matcher(code);
        while (imports.find()) {
            check(Set.of("java.util.Arrays", "java.util.List", "java.util.ArrayList").contains(imports.group(1)),
                "the file imports " + imports.group(1));
        }
        check(code.chars().allMatch(c -> c < 128), "the file has signs above 127");
    }
}
