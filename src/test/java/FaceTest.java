import java.io.IOException;
import java.lang.reflect.Constructor;
import java.lang.reflect.Field;
import java.lang.reflect.Method;
import java.lang.reflect.Modifier;
import java.nio.file.Files;
import java.nio.file.Path;
import java.util.ArrayList;
import java.util.Collections;
import java.util.List;
import java.util.regex.Matcher;
import java.util.regex.Pattern;

/** The public face of the document, and what of LANGUAGE.md can be read off the class or source. */
public final class FaceTest {
    private static final Checks CHECKS = new Checks("FaceTest");
    private static final String SOURCE = "src/main/java/StraightPages.java";
    private static final String[] FACE = {
        "int page(int,int)", "int copy(int)", "boolean set(int,int,int,boolean)",
        "int line(int,int,long)", "int lay(int,int,int,int,long,long)", "int at(int,int,int)",
        "long row(int,int) throws java.util.NoSuchElementException", "int of(int,int)",
        "int count(int)", "int unlike(int,int)", "int across(int,int)", "int upright(int,int)",
        "boolean turn(int,int,int)", "int sharp(int,int)", "int angle(int)", "int bend(int)",
        "int foot(int,int)", "int specks(int,int,int)", "int take(int,int,int)",
        "int shadow(int,int)",
        "int listed(int,int) throws java.util.NoSuchElementException", "int box(int,int)",
        "boolean cut(int,int)", "int spans(int,int,int)", "int part(int,int,int,int)",
        "int back()", "int told(int) throws java.util.NoSuchElementException"
    };
    private static final String[] RULED_OUT = {
        "->", "::", "\\btry\\b", "\\bcatch\\b", "\\bfinally\\b", "\\bsynchronized\\b",
        "\\bassert\\b", "static\\s*\\{", "Exact\\(", "\\bObject\\b", "\\bfloat\\b", "\\bdouble\\b",
        "\\bequals\\(", "\\bhashCode\\(", "\\btoString\\(", "Random", "nanoTime",
        "currentTimeMillis", "\\bThread\\b", "java\\.io", "java\\.nio", "\\bextends\\b",
        "while \\(true\\)", "for \\(;;\\)", "^package "
    };

    public static void main(String[] args) throws IOException {
        methods();
        others();
        namesAreApart();
        source(Files.readString(Path.of(SOURCE)));
        CHECKS.end();
    }

    private static void methods() {
        List<String> want = new ArrayList<>(List.of(FACE));
        List<String> got = new ArrayList<>();
        for (Method method : StraightPages.class.getDeclaredMethods()) {
            if (Modifier.isPublic(method.getModifiers())) {
                CHECKS.hold(method + " is static", !Modifier.isStatic(method.getModifiers()));
                got.add(signature(method));
            } else {
                CHECKS.hold(method + " is not private", Modifier.isPrivate(method.getModifiers()));
            }
        }
        Collections.sort(want);
        Collections.sort(got);
        CHECKS.hold("the face is " + got + ", due is " + want, got.equals(want));
    }

    private static String signature(Method method) {
        StringBuilder text = new StringBuilder();
        text.append(method.getReturnType().getName()).append(' ').append(method.getName()).append('(');
        String between = "";
        for (Class<?> kind : method.getParameterTypes()) {
            text.append(between).append(kind.getName());
            between = ",";
        }
        text.append(')');
        for (Class<?> thrown : method.getExceptionTypes()) {
            text.append(" throws ").append(thrown.getName());
        }
        return text.toString();
    }

    private static void others() {
        int kind = StraightPages.class.getModifiers();
        CHECKS.hold("public and final", Modifier.isPublic(kind) && Modifier.isFinal(kind));
        for (Field field : StraightPages.class.getDeclaredFields()) {
            int is = field.getModifiers();
            boolean none = field.getName().equals("NONE") && Modifier.isPublic(is)
                && Modifier.isStatic(is) && Modifier.isFinal(is) && field.getType() == int.class;
            CHECKS.hold(field + " is not private", none || Modifier.isPrivate(is));
            CHECKS.hold(field + " is static and not final", !Modifier.isStatic(is) || Modifier.isFinal(is));
        }
        Constructor<?>[] made = StraightPages.class.getDeclaredConstructors();
        CHECKS.hold("one constructor, public, without arguments",
            made.length == 1 && Modifier.isPublic(made[0].getModifiers())
                && made[0].getParameterCount() == 0);
        for (Class<?> inside : StraightPages.class.getDeclaredClasses()) {
            CHECKS.hold(inside + " is static and not public",
                Modifier.isStatic(inside.getModifiers()) && !Modifier.isPublic(inside.getModifiers()));
        }
    }

    private static void namesAreApart() {
        List<Class<?>> kinds = new ArrayList<>(List.of(StraightPages.class.getDeclaredClasses()));
        kinds.add(StraightPages.class);
        for (Class<?> kind : kinds) {
            for (Method method : kind.getDeclaredMethods()) {
                if (Modifier.isPublic(method.getModifiers())) {
                    continue;
                }
                for (String face : FACE) {
                    CHECKS.hold(method + " bears a public method's name",
                        !face.contains(" " + method.getName() + "("));
                }
                CHECKS.hold(method + " takes too much", method.getParameterCount() <= 7);
            }
        }
    }

    private static void source(String text) {
        String code = text.replaceAll("(?s)/\\*.*?\\*/", "").replaceAll("//[^\n]*", "")
            .replaceAll("\"[^\"\n]*\"", "\"\"");
        for (String rule : RULED_OUT) {
            Matcher found = Pattern.compile(rule, Pattern.MULTILINE).matcher(code);
            CHECKS.hold("the source has " + rule, !found.find());
        }
        Matcher imports = Pattern.compile("^import (.*);", Pattern.MULTILINE).matcher(code);
        while (imports.find()) {
            String name = imports.group(1);
            CHECKS.hold("import " + name, name.equals("java.util.Arrays")
                || name.equals("java.util.NoSuchElementException"));
        }
        Matcher library = Pattern.compile("\\b(Arrays|System|Math|Long|Integer)\\.(\\w+)").matcher(code);
        List<String> known = List.of("Arrays.fill", "System.arraycopy", "Math.min", "Math.max",
            "Math.abs", "Math.floorDiv", "Long.bitCount");
        while (library.find()) {
            CHECKS.hold("the library's " + library.group(), known.contains(library.group()));
        }
        Matcher thrown = Pattern.compile("throw ([^;]*);").matcher(code);
        while (thrown.find()) {
            CHECKS.hold("throw " + thrown.group(1),
                thrown.group(1).equals("new NoSuchElementException(\"\")"));
        }
        CHECKS.hold("a sign above 126", text.chars().allMatch(c -> c < 127));
    }
}
