import java.io.IOException;
import java.lang.reflect.Constructor;
import java.lang.reflect.Field;
import java.lang.reflect.Member;
import java.lang.reflect.Method;
import java.lang.reflect.Modifier;
import java.nio.file.Files;
import java.nio.file.Path;
import java.util.Set;
import java.util.TreeSet;
import java.util.regex.Pattern;

/** The public face of the document, and the rules of LANGUAGE.md that can be seen from outside. */
public final class FaceTest {
    private static final Path SOURCE = Path.of("src/main/java/CometBench.java");

    private static final Set<String> FACE = Set.of(
        "int round(boolean,int,int)", "boolean masses(int,int)", "int sight(int,int,int,int,int)",
        "int miss(int,int)", "int unsee()", "boolean grid(int,int,int)", "boolean base(int,int)",
        "int keep()", "int way(int,int)", "int at(int,int,int)", "int fits(int,int)",
        "int fitting(int)", "int without(int)", "int patch(int)", "int side(int,boolean)",
        "int tells(int,int)", "int period(int)", "int span(boolean)", "long near(int,int,int)",
        "int nearest()", "int all(int)");

    private static final String[] RULED_OUT = {"\\bthrows?\\b", "\\btry\\b", "\\bcatch\\b",
        "\\bsynchronized\\b", "\\bassert\\b", "\\bimport\\b", "\\bpackage\\b", "->", "::",
        "Exact\\b", "\\bsqrt\\b", "\\bdouble\\b", "\\bfloat\\b", "\\bstatic\\s*\\{", "\\bObject\\b",
        "\\bvar\\b", "\\bprotected\\b", "\\bvolatile\\b", "\\btransient\\b", "\\bnative\\b",
        "while\\s*\\(\\s*true", "for\\s*\\(\\s*;", "\\[\\s*\\]\\s*\\[\\s*\\]\\s*\\["};

    public static void main(String[] args) throws IOException {
        methods();
        members();
        nested();
        words();
        Due.end("FaceTest");
    }

    private static String told(Method m) {
        StringBuilder text = new StringBuilder(m.getReturnType() + " " + m.getName() + "(");
        for (int i = 0; i < m.getParameterCount(); i++) {
            text.append(i == 0 ? "" : ",").append(m.getParameterTypes()[i]);
        }
        return text.append(")").toString();
    }

    private static void methods() {
        Set<String> found = new TreeSet<>();
        Set<String> names = new TreeSet<>();
        for (Method m : CometBench.class.getDeclaredMethods()) {
            if (Modifier.isPublic(m.getModifiers())) {
                found.add(told(m));
                names.add(m.getName());
                Due.same(m + " is static", Modifier.isStatic(m.getModifiers()), false);
            }
        }
        Due.same("the face " + found, found.equals(new TreeSet<>(FACE)), true);
        for (Class<?> owner : all()) {
            for (Method m : owner.getDeclaredMethods()) {
                boolean isFace = owner == CometBench.class && Modifier.isPublic(m.getModifiers());
                Due.same(m + " bears a public name", !isFace && names.contains(m.getName()), false);
                Due.same(m + " takes at most seven", m.getParameterCount() <= 7, true);
            }
        }
    }

    private static Set<Class<?>> all() {
        Set<Class<?>> classes = new java.util.LinkedHashSet<>();
        classes.add(CometBench.class);
        classes.addAll(Set.of(CometBench.class.getDeclaredClasses()));
        return classes;
    }

    private static void isPrivate(Member m) {
        Due.same(m + " is private", Modifier.isPrivate(m.getModifiers()), true);
    }

    private static void members() {
        int flags = CometBench.class.getModifiers();
        Due.same("public and final", Modifier.isPublic(flags) && Modifier.isFinal(flags), true);
        for (Method m : CometBench.class.getDeclaredMethods()) {
            if (!Modifier.isPublic(m.getModifiers())) {
                isPrivate(m);
            }
        }
        Constructor<?>[] made = CometBench.class.getDeclaredConstructors();
        Due.same("one constructor", made.length, 1);
        Due.same("it is public", Modifier.isPublic(made[0].getModifiers()), true);
        Due.same("it takes nothing", made[0].getParameterCount(), 0);
        for (Field f : CometBench.class.getDeclaredFields()) {
            if (f.getName().equals("NONE")) {
                Due.same("NONE is a public constant", f.getModifiers(),
                    Modifier.PUBLIC | Modifier.STATIC | Modifier.FINAL);
            } else {
                isPrivate(f);
            }
        }
    }

    private static void nested() {
        Due.same("at most twelve classes", all().size() <= 12, true);
        for (Class<?> owner : all()) {
            int fields = 0;
            for (Field f : owner.getDeclaredFields()) {
                boolean isStatic = Modifier.isStatic(f.getModifiers());
                fields += isStatic ? 0 : 1;
                Due.same(f + " is no changing static", isStatic && !Modifier.isFinal(f.getModifiers()), false);
            }
            Due.same(owner + " has at most twenty fields", fields <= 20, true);
            if (owner != CometBench.class) {
                Due.same(owner + " is static", Modifier.isStatic(owner.getModifiers()), true);
                Due.same(owner + " is not public", Modifier.isPublic(owner.getModifiers()), false);
            }
        }
    }

    private static void words() throws IOException {
        String source = Files.readString(SOURCE)
            .replaceAll("(?s)/\\*.*?\\*/", " ").replaceAll("//[^\n]*", " ");
        for (String one : RULED_OUT) {
            Due.same("the source has " + one, Pattern.compile(one).matcher(source).find(), false);
        }
    }
}
