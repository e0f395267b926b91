import java.io.IOException;
import java.lang.reflect.Constructor;
import java.lang.reflect.Field;
import java.lang.reflect.Method;
import java.lang.reflect.Modifier;
import java.nio.file.Files;
import java.nio.file.Path;
import java.util.ArrayList;
import java.util.List;
import java.util.TreeSet;
import java.util.regex.Matcher;
import java.util.regex.Pattern;

/** The public face, and those rules of LANGUAGE.md that can be seen by looking for words. */
public final class SourceTest {
    private static final Path SOURCE = Path.of("src/main/java/PatternTrees.java");
    private static final String FACE = "[end(1), example(1), feed(5), looked(1), looks(0), misses(0), never(1), place(0), "
            + "run(1), text(0), told(1)]";
    private static final String[] RULED_OUT = {"\\bthrow\\b", "\\btry\\b", "\\bcatch\\b", "\\bsynchronized\\b", "\\bassert\\b",
        "\\bimport\\b", "\\bpackage\\b", "->", "::", "\\bstatic\\s*\\{", "\\bSystem\\b", "\\bThread\\b", "\\bObject\\b",
        "\\bequals\\b", "\\bhashCode\\b", "\\btoString\\b", "\\bException\\b", "\\bvolatile\\b", "\\bnative\\b", "Exact\\b",
        "\\bdouble\\b", "\\bfloat\\b", "\\bnew\\s+\\w+\\s*\\([^)]*\\)\\s*\\{", "\\bprotected\\b"};

    public static void main(String[] args) throws IOException {
        Check check = new Check();
        face(check);
        words(check);
        methods(check);
        check.end();
    }

    private static void face(Check check) {
        Class<?> face = PatternTrees.class;
        check.due("public final", face.getModifiers(), Modifier.PUBLIC | Modifier.FINAL);
        TreeSet<String> open = new TreeSet<>();
        List<String> hidden = new ArrayList<>();
        for (Method method : face.getDeclaredMethods()) {
            if (Modifier.isPrivate(method.getModifiers())) {
                hidden.add(method.getName());
            } else {
                open.add(method.getName() + "(" + method.getParameterCount() + ")");
            }
        }
        check.due("the methods", open.toString(), FACE);
        for (Field field : face.getDeclaredFields()) {
            boolean isNone = field.getName().equals("NONE");
            check.due(field.getName() + " is private", Modifier.isPrivate(field.getModifiers()) == isNone ? 1 : 0, 0);
        }
        for (Constructor<?> constructor : face.getDeclaredConstructors()) {
            check.due("the constructor's arguments", constructor.getParameterCount(), 0);
        }
        for (Class<?> inner : face.getDeclaredClasses()) {
            check.due(inner.getName() + " is static", Modifier.isStatic(inner.getModifiers()) ? 1 : 0, 1);
            check.due(inner.getName() + " has few fields", inner.getDeclaredFields().length > 20 ? 0 : 1, 1);
            for (Method method : inner.getDeclaredMethods()) {
                hidden.add(method.getName());
                check.due(method.getName() + " has few arguments", method.getParameterCount() > 7 ? 0 : 1, 1);
            }
        }
        check.due("few classes", face.getDeclaredClasses().length > 11 ? 0 : 1, 1);
        for (String name : hidden) {
            check.due("a method inside named " + name, FACE.contains("[" + name + "(") || FACE.contains(" " + name + "(") ? 1 : 0, 0);
        }
        check.due("NONE", PatternTrees.NONE, -1);
    }

    private static String bare() throws IOException {
        String source = Files.readString(SOURCE);
        return source.replaceAll("(?s)/\\*.*?\\*/", "").replaceAll("//[^\n]*", "").replaceAll("\"[^\"\n]*\"", "\"\"");
    }

    private static void words(Check check) throws IOException {
        String source = bare();
        for (String word : RULED_OUT) {
            Matcher found = Pattern.compile(word).matcher(source);
            check.due(word, found.find() ? found.group() : "", "");
        }
        Matcher fields = Pattern.compile("(?m)^\\s*(?:public |private )?static (?!final )[^(]*[;=]").matcher(source);
        check.due("a static field that is not final", fields.find() ? fields.group() : "", "");
    }

    private static void methods(Check check) throws IOException {
        int begin = -1;
        String[] lines = bare().split("\n");
        for (int i = 0; i < lines.length; i++) {
            if (lines[i].matches("( {4}| {8})[\\w\\[\\]<> ]+\\(.*\\) \\{")) {
                begin = i;
            }
            if (begin >= 0 && lines[i].matches("( {4}| {8})\\}")) {
                check.due("lines of the method at " + lines[begin].trim(), i - begin > 60 ? 0 : 1, 1);
                begin = -1;
            }
        }
    }
}
