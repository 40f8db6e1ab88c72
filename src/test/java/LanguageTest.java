import java.io.IOException;
import java.lang.reflect.Constructor;
import java.lang.reflect.Field;
import java.lang.reflect.Member;
import java.lang.reflect.Method;
import java.lang.reflect.Modifier;
import java.nio.file.Files;
import java.nio.file.Path;
import java.util.ArrayList;
import java.util.Arrays;
import java.util.List;
import java.util.Set;
import java.util.TreeSet;
import java.util.regex.Matcher;
import java.util.regex.Pattern;

/** The rules of ../shared/LANGUAGE.md that the file's text and the compiled class show. */
public final class LanguageTest {
    private static final Due DUE = new Due("LanguageTest");
    private static final String[] FACE = {"letter(int)", "ligature(int,int,int,boolean)", "form(int,int,int,int,int,int)",
        "stretch(int,int,int)", "point(int,int)", "bar(int,boolean)", "about(int,int)", "type(int)", "insert(int,int)",
        "remove(int)", "undo()", "text(int)", "shape(int,int)", "words()", "line(int,int,int)", "near(int)",
        "plain(int,int)", "atHand(int)", "piece(int,int)", "mark(int,int)", "seen(int)", "place(int)", "witness(int)",
        "claim(int)", "drop()", "check(int,int)", "best(int)", "lines(int,int)", "take(int)", "pages(int)",
        "page(int,int)", "told(int)"};

    public static void main(String[] args) throws IOException {
        face();
        constants();
        classes();
        text(Files.readString(Path.of("src/main/java/JoinSetter.java")));
        DUE.end();
    }

    private static void rule(String name, boolean kept) {
        DUE.is(name, kept ? 1 : 0, 1);
    }

    private static void face() {
        Set<String> found = new TreeSet<>();
        for (Method m : JoinSetter.class.getDeclaredMethods()) {
            if (Modifier.isPublic(m.getModifiers())) {
                StringBuilder parameters = new StringBuilder();
                for (Class<?> type : m.getParameterTypes()) {
                    parameters.append(parameters.length() > 0 ? "," : "").append(type.getName());
                }
                found.add(m.getName() + "(" + parameters + ")");
                rule(m.getName() + " answers an int", m.getReturnType() == int.class);
                rule(m.getName() + " is no static one", !Modifier.isStatic(m.getModifiers()));
            } else {
                rule(m.getName() + " is private", Modifier.isPrivate(m.getModifiers()));
            }
        }
        rule("the face is the document's: " + found, found.equals(new TreeSet<>(Arrays.asList(FACE))));
        Constructor<?>[] constructors = JoinSetter.class.getDeclaredConstructors();
        rule("one public constructor without parameters", constructors.length == 1
                && Modifier.isPublic(constructors[0].getModifiers()) && constructors[0].getParameterCount() == 0);
        rule("public and final", Modifier.isPublic(JoinSetter.class.getModifiers())
                && Modifier.isFinal(JoinSetter.class.getModifiers()));
    }

    private static void constants() {
        String[] names = {"UNKNOWN", "OUTSIDE", "STATE", "FULL", "NO", "NONE"};
        int[] values = {JoinSetter.UNKNOWN, JoinSetter.OUTSIDE, JoinSetter.STATE, JoinSetter.FULL, JoinSetter.NO,
            JoinSetter.NONE};
        Set<String> found = new TreeSet<>();
        for (Field f : JoinSetter.class.getDeclaredFields()) {
            if (Modifier.isPrivate(f.getModifiers())) {
                continue;
            }
            found.add(f.getName());
            rule(f.getName() + " is a public constant", Modifier.isPublic(f.getModifiers())
                    && Modifier.isStatic(f.getModifiers()) && Modifier.isFinal(f.getModifiers()));
        }
        rule("the constants are the document's: " + found, found.equals(new TreeSet<>(Arrays.asList(names))));
        for (int k = 0; k < 6; k++) {
            DUE.is(names[k], values[k], -1 - k);
        }
    }

    private static void classes() {
        Set<String> publicNames = new TreeSet<>();
        for (String call : FACE) {
            publicNames.add(call.substring(0, call.indexOf('(')));
        }
        List<Class<?>> all = new ArrayList<>(Arrays.asList(JoinSetter.class.getDeclaredClasses()));
        all.add(JoinSetter.class);
        rule("at most twelve classes", all.size() <= 12);
        for (Class<?> c : all) {
            boolean inside = c != JoinSetter.class;
            rule(c + " is static", !inside || Modifier.isStatic(c.getModifiers()));
            rule(c + " holds no classes", !inside || c.getDeclaredClasses().length == 0);
            int fields = 0;
            for (Field f : c.getDeclaredFields()) {
                boolean isStatic = Modifier.isStatic(f.getModifiers());
                rule(f + " is final", !isStatic || Modifier.isFinal(f.getModifiers()));
                fields += isStatic ? 0 : 1;
            }
            rule(c + " has at most twenty fields: " + fields, fields <= 20);
            for (Method m : c.getDeclaredMethods()) {
                rule(m + " has at most seven parameters", m.getParameterCount() <= 7);
                rule(m + " bears no name of the face", !inside || !publicNames.contains(m.getName()));
            }
            for (Member m : c.getDeclaredConstructors()) {
                rule(m + " is a constructor", m instanceof Constructor);
            }
        }
    }

    private static void text(String source) {
        String code = source.replaceAll("(?s)/\\*.*?\\*/", "").replaceAll("//[^\n]*", "").replaceAll("\"[^\"\n]*\"", "\"\"");
        String[] words = {"throw", "throws", "try", "catch", "finally", "synchronized", "assert", "package", "System",
            "Float", "Double", "Object", "var", "hashCode", "equals", "toString", "instanceof", "Random", "Thread"};
        for (String word : words) {
            rule("no " + word, !Pattern.compile("\\b" + word + "\\b").matcher(code).find());
        }
        rule("no lambda", !code.contains("->"));
        rule("no method reference", !code.contains("::"));
        rule("no function whose name ends in Exact", !code.contains("Exact"));
        rule("no packages but java.util.Arrays", code.replace("import java.util.Arrays;", "").indexOf("import") < 0);
        for (char c : source.toCharArray()) {
            if (c > 126) {
                rule("signs are plain: " + (int) c, false);
            }
        }
        library(code);
        rooms(code);
        lengths(code);
    }

    private static void library(String code) {
        Matcher m = Pattern.compile("\\b(Math|Arrays|Integer|Long|String|StringBuilder)\\.(\\w+)").matcher(code);
        while (m.find()) {
            String call = m.group(1) + "." + m.group(2);
            rule("the library has " + call, List.of("Math.max", "Math.min", "Arrays.fill").contains(call));
        }
    }

    /** All rows are made with the object: no call makes any. */
    private static void rooms(String code) {
        for (String line : code.split("\n")) {
            if (line.contains("new ")) {
                rule("made in a field: " + line.trim(), line.trim().matches("(private |final )*[\\w\\[\\]]+ \\w+ = new .*;"));
            }
        }
    }

    private static void lengths(String code) {
        String[] lines = code.split("\n");
        int from = -1;
        int depth = 0;
        int methodDepth = 0;
        for (int k = 0; k < lines.length; k++) {
            boolean begins = from < 0 && lines[k].matches("\\s*(?!.*\\bclass\\b).*\\(.*") && lines[k].indexOf('=') < 0
                    && !lines[k].trim().endsWith(";");
            if (begins) {
                from = k;
                methodDepth = depth;
            }
            for (char c : lines[k].toCharArray()) {
                depth += c == '{' ? 1 : c == '}' ? -1 : 0;
            }
            if (from >= 0 && k > from && depth == methodDepth && lines[k].trim().equals("}")) {
                rule("at most sixty lines: " + lines[from].trim(), k - from + 1 <= 60);
                from = -1;
            }
        }
    }
}
