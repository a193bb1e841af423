import java.lang.reflect.Constructor;
import java.lang.reflect.Field;
import java.lang.reflect.Method;
import java.lang.reflect.Modifier;
import java.nio.file.Files;
import java.nio.file.Path;
import java.util.HashSet;
import java.util.Set;
import java.util.TreeSet;
import java.util.regex.Matcher;
import java.util.regex.Pattern;

/** The class's face is the document's, and its source keeps to the rules of ../shared/LANGUAGE.md that a look can tell. */
final class RulesTest {
    public static void main(String[] args) throws Exception {
        face();
        insides();
        String source = bare(Files.readString(Path.of("src/main/java/Unmade.java")));
        words(source);
        methods(source);
        Kit.end("RulesTest");
    }

    private static void none(String what, Set<String> found) {
        Kit.due(what + " " + found, found.size(), 0);
    }

    /** Public methods as the document writes them, compared with those that the class has. */
    private static void face() throws Exception {
        String document = Files.readString(Path.of("../shared/DOC.md"));
        Set<String> due = new TreeSet<>();
        Matcher m = Pattern.compile("    public (int|long|boolean) (\\w+)\\(([^)]*)\\);").matcher(document);
        while (m.find()) {
            String types = m.group(3).replaceAll(" \\w+(, |$)", "$1").replaceAll("\\s", "");
            due.add(m.group(1) + " " + m.group(2) + "(" + types + ")");
        }
        Set<String> had = new TreeSet<>();
        Set<String> publicNames = new HashSet<>();
        Set<String> hidden = new TreeSet<>();
        for (Method method : Unmade.class.getDeclaredMethods()) {
            StringBuilder types = new StringBuilder();
            for (Class<?> type : method.getParameterTypes()) {
                types.append(types.length() > 0 ? "," : "").append(type.getName());
            }
            if (Modifier.isPublic(method.getModifiers())) {
                had.add(method.getReturnType().getName() + " " + method.getName() + "(" + types + ")");
                publicNames.add(method.getName());
            } else {
                hidden.add(method.getName());
                Kit.due("private " + method.getName(), Modifier.isPrivate(method.getModifiers()) ? 1 : 0, 1);
            }
        }
        Kit.due("methods in the document", due.size(), 55);
        Set<String> missing = new TreeSet<>(due);
        missing.removeAll(had);
        none("missing", missing);
        had.removeAll(due);
        none("too many", had);
        for (Class<?> inside : Unmade.class.getDeclaredClasses()) {
            for (Method method : inside.getDeclaredMethods()) {
                hidden.add(method.getName());
            }
        }
        hidden.retainAll(publicNames);
        none("a private method with a public one's name", hidden);
        Kit.due("public and final", Unmade.class.getModifiers() & (Modifier.PUBLIC | Modifier.FINAL), Modifier.PUBLIC | Modifier.FINAL);
        Constructor<?>[] constructors = Unmade.class.getDeclaredConstructors();
        Kit.due("one constructor", constructors.length, 1);
        Kit.due("a public one", Modifier.isPublic(constructors[0].getModifiers()) ? 1 : 0, 1);
    }

    private static void insides() {
        Kit.due("at most some twelve classes", Unmade.class.getDeclaredClasses().length <= 12 ? 1 : 0, 1);
        fields(Unmade.class);
        for (Class<?> inside : Unmade.class.getDeclaredClasses()) {
            Kit.due("static " + inside, Modifier.isStatic(inside.getModifiers()) ? 1 : 0, 1);
            fields(inside);
        }
    }

    private static void fields(Class<?> of) {
        int own = 0;
        for (Field field : of.getDeclaredFields()) {
            boolean isStatic = Modifier.isStatic(field.getModifiers());
            Kit.due("static and final " + field, !isStatic || Modifier.isFinal(field.getModifiers()) ? 1 : 0, 1);
            own += isStatic ? 0 : 1;
            if (of == Unmade.class) {
                boolean may = Modifier.isPrivate(field.getModifiers()) || field.getName().equals("NONE");
                Kit.due("private " + field, may ? 1 : 0, 1);
            }
        }
        Kit.due("at most some twenty fields in " + of, own <= 20 ? 1 : 0, 1);
    }

    /** The source without comments, and with its texts and signs emptied. */
    private static String bare(String source) {
        return source.replaceAll("(?s)/\\*.*?\\*/", "").replaceAll("//[^\n]*", "")
            .replaceAll("\"(\\\\.|[^\"\\\\])*\"", "\"\"").replaceAll("'(\\\\.|[^'\\\\])'", "' '");
    }

    private static void words(String source) {
        Set<String> found = new TreeSet<>();
        String[] never = {"throw", "throws", "try", "catch", "finally", "synchronized", "assert", "var", "volatile", "native",
            "instanceof", "equals", "hashCode", "toString", "Exact\\(", "->", "::", "@", "null", "Object", "Random", "System\\.(?!arraycopy)",
            "\"\" \\+", "\\+ \"\"", "protected", "package", "while \\(true\\)", "for \\(;;"};
        for (String word : never) {
            String pattern = word.matches("\\w+") ? "\\b" + word + "\\b" : word;
            if (Pattern.compile(pattern).matcher(source).find()) {
                found.add(word);
            }
        }
        none("words that are ruled out:", found);
        Matcher m = Pattern.compile("import ([\\w.]+);").matcher(source);
        Set<String> imports = new TreeSet<>();
        while (m.find()) {
            imports.add(m.group(1));
        }
        imports.remove("java.util.Arrays");
        none("imports that are ruled out:", imports);
        Matcher calls = Pattern.compile("\\b(Arrays|Integer|Math|Long|System)\\.(\\w+)").matcher(source);
        Set<String> library = new TreeSet<>();
        while (calls.find()) {
            library.add(calls.group(1) + "." + calls.group(2));
        }
        library.removeAll(Set.of("Arrays.fill", "Integer.bitCount", "Math.max", "Math.min", "Math.abs", "System.arraycopy"));
        none("parts of the library that are not used so far:", library);
    }

    private static void methods(String source) {
        String[] lines = source.split("\n");
        int start = -1;
        for (int i = 0; i < lines.length; i++) {
            Matcher m = Pattern.compile("^( {4}| {8})(?!return|if|for|else|switch|while)[\\w\\[\\] ]*\\w\\(([^()]*)\\) \\{$").matcher(lines[i]);
            if (m.find()) {
                start = i;
                Kit.due("at most seven parameters: " + lines[i], m.group(2).split(",").length <= 7 ? 1 : 0, 1);
            } else if (start >= 0 && lines[i].matches(" {4}\\}| {8}\\}")) {
                Kit.due("some sixty lines: " + lines[start], i - start <= 62 ? 1 : 0, 1);
                start = -1;
            }
        }
    }
}
