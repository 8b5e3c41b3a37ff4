import java.lang.reflect.Field;
import java.lang.reflect.Method;
import java.lang.reflect.Modifier;
import java.nio.charset.StandardCharsets;
import java.nio.file.Files;
import java.nio.file.Path;
import java.util.ArrayList;
import java.util.HashSet;
import java.util.List;
import java.util.Set;
import java.util.regex.Matcher;
import java.util.regex.Pattern;

/** What can be seen of ../shared/LANGUAGE.md and of the document's face in the source and the compiled class. */
public final class LanguageTests {
    private static final Check check = new Check();

    private static final String[] FACE = {"int terms(int,int)", "int feed(int,int,int,int,int)", "int end(int)", "int law()", "int orders()",
        "int fault()", "int stopped()", "int force(int)", "int put()", "int rewrite(int)", "int drop(int)", "int pack(int)", "int mend()",
        "int undo()", "int view(int)", "int sign(int)", "int page(int,int)", "int slot(int,int,int)", "int map(int)", "int search(int)",
        "int scan(int)", "int above(int)", "int pieces(int,int)", "int sorted(int)", "int find()", "int fit(int)", "int worst(int)",
        "long few(int,int)", "int compare(int,int)", "int days(int,int)", "int drawn(int,int)", "int image(int)", "int back(int)",
        "int count(int)", "int status()"};

    private static List<Class<?>> classes() {
        List<Class<?>> all = new ArrayList<>(List.of(RecordHeap.class.getDeclaredClasses()));
        all.add(RecordHeap.class);
        return all;
    }

    private static String told(Method m) {
        StringBuilder s = new StringBuilder(m.getReturnType().getName()).append(' ').append(m.getName()).append('(');
        for (int i = 0; i < m.getParameterCount(); i++) {
            s.append(i > 0 ? "," : "").append(m.getParameterTypes()[i].getName());
        }
        return s.append(')').toString();
    }

    private static void face() {
        Set<String> open = new HashSet<>();
        for (Method m : RecordHeap.class.getDeclaredMethods()) {
            if (!Modifier.isPrivate(m.getModifiers())) {
                open.add(told(m));
                check.holds(m + " is public and not static", m.getModifiers() == Modifier.PUBLIC);
            }
        }
        check.holds("the face's methods and no others: " + open, open.equals(Set.of(FACE)));
        for (Field f : RecordHeap.class.getDeclaredFields()) {
            check.holds(f + " is private", f.getName().equals("NONE") || Modifier.isPrivate(f.getModifiers()));
        }
        check.due("NONE", RecordHeap.NONE, -1);
        check.due("constructors", RecordHeap.class.getDeclaredConstructors().length, 1);
        check.holds("public and final", RecordHeap.class.getModifiers() == (Modifier.PUBLIC | Modifier.FINAL));
        check.holds("no package", RecordHeap.class.getPackageName().isEmpty());
    }

    private static void members() {
        Set<String> names = new HashSet<>();
        for (String f : FACE) {
            names.add(f.substring(f.indexOf(' ') + 1, f.indexOf('(')));
        }
        check.holds("some twelve classes", classes().size() <= 12);
        for (Class<?> c : classes()) {
            int fields = 0;
            check.holds(c + " is static", c == RecordHeap.class || Modifier.isStatic(c.getModifiers()));
            check.due("deeper classes of " + c, c == RecordHeap.class ? 0 : c.getDeclaredClasses().length, 0);
            for (Method m : c.getDeclaredMethods()) {
                check.holds(m + " bears no name of the face", Modifier.isPublic(m.getModifiers()) || !names.contains(m.getName()));
                check.holds(m + " has few parameters", m.getParameterCount() <= 7);
                check.holds(m + " is no lambda's", !m.isSynthetic());
            }
            for (Field f : c.getDeclaredFields()) {
                boolean isStatic = Modifier.isStatic(f.getModifiers());
                fields += isStatic ? 0 : 1;
                check.holds(f + " is final", !isStatic || Modifier.isFinal(f.getModifiers()));
                check.holds(f + " is a constant", !isStatic
                    || Set.of("int", "long", "boolean", "char", "java.lang.String", "[I", "[J", "[C", "[B").contains(f.getType().getName()));
            }
            check.holds(c + " has some twenty fields", fields <= 20);
        }
    }

    /** The source without comments and without what stands in quotes. */
    private static String bare(String source) {
        return source.replaceAll("(?s)/\\*.*?\\*/", "").replaceAll("//[^\n]*", "")
            .replaceAll("\"(\\\\.|[^\"\\\\\n])*\"", "\"\"").replaceAll("'(\\\\.|[^'\\\\\n])+'", "' '");
    }

    private static void words(String source) {
        String bare = bare(source);
        String[] wrong = {"throw", "throws", "try", "catch", "finally", "synchronized", "assert", "volatile", "native", "instanceof", "goto",
            "Object", "System\\.(?!arraycopy)", "Thread", "Random", "Exception", "Error", "Throwable", "Class", "equals", "hashCode",
            "toString", "Float", "Double", "double", "float", "NaN", "Math\\.\\w+Exact", "Math\\.(?!max|min|abs|floorDiv|floorMod)",
            "Arrays\\.(?!fill|copyOf|copyOfRange)", "Integer\\.(?!bitCount|compare|max|min)", "Long\\.(?!MIN_VALUE|MAX_VALUE|compare|max|min)",
            "String\\.", "enum", "record", "interface", "extends", "implements", "protected", "static \\{", "var"};
        for (String w : wrong) {
            Matcher m = Pattern.compile("\\b" + w + "\\b").matcher(bare);
            check.holds("no " + w, !m.find());
        }
        check.holds("no lambda", !bare.contains("->"));
        check.holds("no reference to a method", !bare.contains("::"));
        check.holds("no annotation", !bare.contains("@"));
        check.holds("no text joined by +", !bare.contains("\"\" +") && !bare.contains("+ \"\""));
        check.holds("no package line", !bare.contains("package"));
        Matcher imports = Pattern.compile("import ([^;]*);").matcher(bare);
        while (imports.find()) {
            check.holds(imports.group(), Set.of("java.util.Arrays", "java.util.ArrayList", "java.util.List").contains(imports.group(1)));
        }
        check.holds("signs 1 to 126", source.chars().allMatch(c -> c == '\n' || c >= 32 && c < 127));
    }

    private static void lengths(String source) {
        String[] lines = source.split("\n", -1);
        int begun = -1;
        String indent = "";
        for (int i = 0; i < lines.length; i++) {
            Matcher m = Pattern.compile("( {4}| {8})\\S[^;=]*\\) \\{").matcher(lines[i]);
            if (begun < 0 && m.matches()) {
                begun = i;
                indent = m.group(1);
            } else if (begun >= 0 && lines[i].equals(indent + "}")) {
                check.holds("line " + (begun + 1) + ": some sixty lines at most", i - begun + 1 <= 60);
                begun = -1;
            }
        }
        check.due("a method that does not end", begun, -1);
    }

    public static void main(String[] args) throws Exception {
        String source = Files.readString(Path.of("src/main/java/RecordHeap.java"), StandardCharsets.ISO_8859_1);
        check.begin("language: the face");
        face();
        check.end();
        check.begin("language: members");
        members();
        check.end();
        check.begin("language: words");
        words(source);
        check.end();
        check.begin("language: lengths of methods");
        lengths(source);
        check.end();
        check.close();
    }
}
