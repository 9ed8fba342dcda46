import java.io.IOException;
import java.lang.reflect.Constructor;
import java.lang.reflect.Field;
import java.lang.reflect.Method;
import java.lang.reflect.Modifier;
import java.nio.file.Files;
import java.nio.file.Path;
import java.util.ArrayList;
import java.util.Arrays;
import java.util.HashSet;
import java.util.List;
import java.util.Set;
import java.util.TreeSet;
import java.util.regex.Matcher;
import java.util.regex.Pattern;

/** What of ../shared/LANGUAGE.md can be seen from outside or by simple reading; run from the project's folder. */
public final class RulesTest {
    private static final Due due = new Due("RulesTest");

    public static void main(String[] args) throws IOException {
        face();
        inside();
        words();
        methods();
        due.end();
    }

    /** Rule 1: the document's face and no more. */
    private static void face() throws IOException {
        String doc = Files.readString(Path.of("../shared/DOC.md"));
        Set<String> want = new TreeSet<>();
        Matcher m = Pattern.compile("public (int|long) (\\w+)\\(([^)]*)\\);").matcher(doc);
        while (m.find()) {
            List<String> types = new ArrayList<>();
            for (String p : m.group(3).isEmpty() ? new String[0] : m.group(3).split(", ")) {
                types.add(p.split(" ")[0]);
            }
            want.add(m.group(1) + " " + m.group(2) + types);
        }
        due.is("methods in the document", want.size(), 38);
        Set<String> got = new TreeSet<>();
        Set<String> privates = new HashSet<>();
        for (Method method : AGapEveryTwenty.class.getDeclaredMethods()) {
            List<String> types = new ArrayList<>();
            for (Class<?> c : method.getParameterTypes()) {
                types.add(c.getName());
            }
            if (Modifier.isPrivate(method.getModifiers())) {
                privates.add(method.getName());
            } else {
                got.add(method.getReturnType().getName() + " " + method.getName() + types);
                due.is("public, not static: " + method, Modifier.isPublic(method.getModifiers())
                        && !Modifier.isStatic(method.getModifiers()) ? 1 : 0, 1);
            }
        }
        due.is("the face: " + got, got.equals(want) ? 1 : 0, 1);
        for (String line : want) {
            due.is("no private method has a public name: " + line,
                    privates.contains(line.replaceAll("^\\w+ (\\w+).*", "$1")) ? 1 : 0, 0);
        }
        Set<String> constants = new TreeSet<>();
        for (Field field : AGapEveryTwenty.class.getDeclaredFields()) {
            if (!Modifier.isPrivate(field.getModifiers())) {
                constants.add(field.getType() + " " + field.getName() + " " + Modifier.toString(field.getModifiers()));
            }
            due.is("static is final: " + field, !Modifier.isStatic(field.getModifiers())
                    || Modifier.isFinal(field.getModifiers()) ? 1 : 0, 1);
        }
        due.is("constants: " + constants, constants.equals(new TreeSet<>(Arrays.asList("int NONE public static final",
                "int BAD public static final", "int STATE public static final", "int FULL public static final",
                "long NO public static final"))) ? 1 : 0, 1);
        Constructor<?>[] made = AGapEveryTwenty.class.getDeclaredConstructors();
        due.is("one constructor", made.length, 1);
        due.is("public", Modifier.isPublic(made[0].getModifiers()) ? 1 : 0, 1);
        due.is("final", Modifier.toString(AGapEveryTwenty.class.getModifiers()).equals("public final") ? 1 : 0, 1);
    }

    /** Rules 1, 2, 5, 11 of the classes inside. */
    private static void inside() {
        Class<?>[] classes = AGapEveryTwenty.class.getDeclaredClasses();
        due.is("twelve classes at most", classes.length < 12 ? 1 : 0, 1);
        for (Class<?> c : classes) {
            int mods = c.getModifiers();
            due.is("static, not public: " + c, Modifier.isStatic(mods) && !Modifier.isPublic(mods)
                    && !Modifier.isProtected(mods) ? 1 : 0, 1);
            int fields = 0;
            for (Field f : c.getDeclaredFields()) {
                fields += Modifier.isStatic(f.getModifiers()) ? 0 : 1;
                due.is("static is final: " + f, !Modifier.isStatic(f.getModifiers())
                        || Modifier.isFinal(f.getModifiers()) ? 1 : 0, 1);
            }
            due.is("twenty fields at most: " + c, fields <= 20 ? 1 : 0, 1);
        }
    }

    /** Rules 4 and 6: words that do not stand in the file; its library. */
    private static void words() throws IOException {
        String code = bare();
        String[] banned = {"throw", "throws", "try", "catch", "synchronized", "assert", "package", "volatile", "transient",
            "native", "var", "record", "sealed", "yield", "double", "float", "Object", "equals", "hashCode", "toString",
            "System.out", "System.err", "System.nano", "System.current", "System.exit", "Thread", "Random", "Exact"};
        for (String word : banned) {
            due.is("there is no " + word, Pattern.compile("\\b" + Pattern.quote(word) + "\\b").matcher(code).find() ? 1 : 0, 0);
        }
        due.is("no lambda", code.contains("->") ? 1 : 0, 0);
        due.is("no method reference", code.contains("::") ? 1 : 0, 0);
        Set<String> library = new TreeSet<>();
        Matcher m = Pattern.compile("\\b(Math|Integer|Long|System|Arrays)\\.(\\w+)").matcher(code);
        while (m.find()) {
            library.add(m.group(1) + "." + m.group(2));
        }
        library.removeAll(Arrays.asList("Math.abs", "Math.max", "Math.min", "Integer.bitCount", "System.arraycopy",
                "Arrays.fill"));
        due.is("library: " + library, library.size(), 0);
        Matcher imports = Pattern.compile("import ([\\w.]+);").matcher(code);
        while (imports.find()) {
            due.is("import " + imports.group(1), imports.group(1).equals("java.util.Arrays") ? 1 : 0, 1);
        }
        for (int i = 0; i < code.length(); i++) {
            if (code.charAt(i) > 127) {
                due.is("sign " + (int) code.charAt(i), 1, 0);
            }
        }
    }

    /** Rule 11: methods stay short, and take seven parameters at most. */
    private static void methods() throws IOException {
        String[] lines = bare().split("\n", -1);
        int begun = -1;
        String end = "";
        for (int i = 0; i < lines.length; i++) {
            Matcher m = Pattern.compile("^( +)(?:(?:public|private|static|final) )*[\\w\\[\\]]+(?: \\w+)?\\(([^)]*)\\) \\{$")
                    .matcher(lines[i]);
            boolean control = lines[i].matches("^ *(if|for|while|switch|else).*");
            if (begun < 0 && m.matches() && !control) {
                begun = i;
                end = m.group(1) + "}";
                due.is("parameters of line " + (i + 1), m.group(2).split(",").length <= 7 ? 1 : 0, 1);
            } else if (begun >= 0 && lines[i].equals(end)) {
                due.is("lines from " + (begun + 1) + " on", i - begun + 1 <= 60 ? 1 : 0, 1);
                begun = -1;
            }
        }
    }

    /** The file without its comments and texts. */
    private static String bare() throws IOException {
        String code = Files.readString(Path.of("src/main/java/AGapEveryTwenty.java"));
        StringBuilder b = new StringBuilder();
        Matcher m = Pattern.compile("/\\*.*?\\*/|//[^\n]*|\"[^\"\n]*\"|'(?:\\\\.|[^'\\\\])'", Pattern.DOTALL).matcher(code);
        int at = 0;
        while (m.find()) {
            b.append(code, at, m.start()).append(m.group().replaceAll("[^\n]", " "));
            at = m.end();
        }
        return b.append(code.substring(at)).toString();
    }
}
