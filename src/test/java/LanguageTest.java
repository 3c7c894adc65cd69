import java.io.IOException;
import java.lang.reflect.Constructor;
import java.lang.reflect.Field;
import java.lang.reflect.Method;
import java.lang.reflect.Modifier;
import java.nio.file.Files;
import java.nio.file.Path;
import java.util.Arrays;
import java.util.Set;
import java.util.TreeSet;
import java.util.regex.Matcher;
import java.util.regex.Pattern;

/** The document's face, and those rules of LANGUAGE.md that can be looked up in the class and its text. */
public final class LanguageTest {
    private static final String[] FACE = {"int letter(int)", "int blank()", "int fault()", "int city()",
        "int tune(int)", "int told(int,int)", "int street(int,int)", "int as(int,int)", "int comes(int,int)",
        "int walk(int)", "int stand(int)", "int dusk()", "int sing(int,int,int)", "int raise(int,int)",
        "int way(int)", "int become(int)", "int apart()", "int near()", "int see(int,int,int)", "int forget()",
        "int wander(int,int,int)", "int image()", "int restore()", "int count(int)", "long digest()"};
    private static final String[] CONSTANTS = {"NONE", "UNKNOWN", "OUTSIDE", "STATE", "FULL"};
    private static final String FORBIDDEN = "\\b(throw|throws|try|catch|finally|synchronized|assert|import|package"
        + "|native|volatile|var|protected|hashCode|\\w+Exact|System\\.(?!arraycopy)\\w+|Thread|Random)\\b|->|::|@";

    private static final Checks C = new Checks();

    public static void main(String[] args) throws IOException {
        face();
        statics(KeyStreets.class);
        for (Class<?> inside : KeyStreets.class.getDeclaredClasses()) statics(inside);
        inside();
        text(Files.readString(Path.of(System.getProperty("project.root", "."), "src/main/java/KeyStreets.java")));
        C.end("LanguageTest");
    }

    private static void yes(String what, boolean holds) {
        C.due(what, holds ? 1 : 0, 1);
    }

    private static String told(Method m) {
        String parameters = Arrays.toString(m.getParameterTypes()).replaceAll("[\\[\\] ]", "");
        return m.getReturnType() + " " + m.getName() + "(" + parameters + ")";
    }

    private static void face() {
        Class<KeyStreets> c = KeyStreets.class;
        yes("public and final", Modifier.isPublic(c.getModifiers()) && Modifier.isFinal(c.getModifiers()));
        Set<String> methods = new TreeSet<>();
        Set<String> names = new TreeSet<>();
        for (String m : FACE) names.add(m.replaceAll("^\\w+ |\\(.*", ""));
        for (Method m : c.getDeclaredMethods()) {
            if (m.isSynthetic()) continue;
            if (Modifier.isPrivate(m.getModifiers())) {
                yes("no private method is named " + m.getName(), !names.contains(m.getName()));
            } else {
                yes("public " + m, Modifier.isPublic(m.getModifiers()) && !Modifier.isStatic(m.getModifiers()));
                methods.add(told(m));
            }
        }
        yes("the methods " + methods, methods.equals(new TreeSet<>(Arrays.asList(FACE))));
        Set<String> constants = new TreeSet<>();
        for (Field f : c.getDeclaredFields()) {
            if (!Modifier.isPrivate(f.getModifiers())) constants.add(f.getName());
        }
        yes("the constants " + constants, constants.equals(new TreeSet<>(Arrays.asList(CONSTANTS))));
        Constructor<?>[] constructors = c.getDeclaredConstructors();
        yes("one constructor", constructors.length == 1 && constructors[0].getParameterCount() == 0
            && Modifier.isPublic(constructors[0].getModifiers()));
        C.due("NONE", KeyStreets.NONE, -1);
        C.due("UNKNOWN", KeyStreets.UNKNOWN, -101);
        C.due("OUTSIDE", KeyStreets.OUTSIDE, -102);
        C.due("STATE", KeyStreets.STATE, -103);
        C.due("FULL", KeyStreets.FULL, -104);
    }

    private static void statics(Class<?> c) {
        int own = 0;
        for (Field f : c.getDeclaredFields()) {
            if (Modifier.isStatic(f.getModifiers())) {
                yes("final: " + f, Modifier.isFinal(f.getModifiers()));
            } else {
                own++;
            }
        }
        yes(c.getName() + " has some twenty fields at most", own <= 20);
        for (Method m : c.getDeclaredMethods()) yes("seven parameters at most: " + m, m.getParameterCount() <= 7);
    }

    private static void inside() {
        Class<?>[] inside = KeyStreets.class.getDeclaredClasses();
        yes("some twelve classes at most", inside.length + 1 <= 12);
        for (Class<?> c : inside) {
            yes("static: " + c, Modifier.isStatic(c.getModifiers()));
            yes("not public: " + c, !Modifier.isPublic(c.getModifiers()) && !Modifier.isProtected(c.getModifiers()));
        }
    }

    private static void text(String source) {
        String code = source.replaceAll("(?s)/\\*.*?\\*/", "").replaceAll("//[^\n]*", "");
        Matcher m = Pattern.compile(FORBIDDEN).matcher(code);
        while (m.find()) yes("the text has none of: " + m.group(), false);
        yes("the text was read", code.contains("class KeyStreets"));
    }
}
