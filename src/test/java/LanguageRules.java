import java.lang.reflect.Constructor;
import java.lang.reflect.Field;
import java.lang.reflect.Method;
import java.lang.reflect.Modifier;
import java.nio.file.Files;
import java.nio.file.Path;
import java.util.ArrayList;
import java.util.Arrays;
import java.util.List;
import java.util.Set;
import java.util.TreeSet;
import java.util.regex.Matcher;
import java.util.regex.Pattern;

/** What can be told of LANGUAGE.md's rules from the source, and of the face from DOC.md. */
public final class LanguageRules {
    private static int wrong = 0;

    public static void main(String[] args) throws Exception {
        Path root = Path.of(args.length > 0 ? args[0] : ".");
        String source = Files.readString(root.resolve("src/main/java/AgingPortrait.java"));
        String doc = Files.readString(root.resolve("../shared/DOC.md"));
        face(doc);
        members();
        words(source);
        library(source);
        sizes(source);
        System.out.println(wrong == 0 ? "the rules are kept" : wrong + " breaches");
        if (wrong != 0) {
            System.exit(1);
        }
    }

    private static void breach(String what) {
        wrong++;
        System.out.println(what);
    }

    /** The public members are those of the document's code block, no more, no fewer. */
    private static void face(String doc) throws Exception {
        int from = doc.indexOf("```java");
        String block = doc.substring(from, doc.indexOf("```", from + 3));
        constants(block);
        Set<String> due = new TreeSet<>();
        Matcher method = Pattern.compile("public (int|long) (\\w+)\\(([^)]*)\\)").matcher(block);
        while (method.find()) {
            due.add(method.group(1) + " " + method.group(2) + types(method.group(3)));
        }
        Set<String> got = new TreeSet<>();
        for (Method one : AgingPortrait.class.getDeclaredMethods()) {
            if (Modifier.isPublic(one.getModifiers()) && !Modifier.isStatic(one.getModifiers())) {
                got.add(one.getReturnType() + " " + one.getName()
                        + Arrays.toString(one.getParameterTypes()));
            } else if (!Modifier.isPrivate(one.getModifiers())) {
                breach("rule 1: " + one);
            }
        }
        if (!due.equals(got) || due.size() != 57) {
            breach("the face is " + got + ", due is " + due);
        }
        Constructor<?>[] made = AgingPortrait.class.getDeclaredConstructors();
        if (made.length != 1 || made[0].getParameterCount() != 0) {
            breach("constructors " + Arrays.toString(made));
        }
        int is = AgingPortrait.class.getModifiers();
        if (!Modifier.isFinal(is) || !Modifier.isPublic(is) || made.length > 0
                && !Modifier.isPublic(made[0].getModifiers())) {
            breach("rule 1: the class is not public and final, or its constructor not public");
        }
    }

    /** The types of "int a, int b" as a list: [int, int]. */
    private static String types(String parameters) {
        return "[" + parameters.strip().replaceAll(" +\\w+(?=,|$)", "") + "]";
    }

    /** The constants are there, as the document's code block tells them. */
    private static void constants(String block) throws Exception {
        Matcher constant = Pattern.compile("public static final int (\\w+) = (-?\\d+);").matcher(block);
        int found = 0;
        while (constant.find()) {
            found++;
            Field field = AgingPortrait.class.getDeclaredField(constant.group(1));
            int is = field.getModifiers();
            if (!Modifier.isPublic(is) || !Modifier.isStatic(is) || !Modifier.isFinal(is)
                    || field.getType() != int.class
                    || field.getInt(null) != Integer.parseInt(constant.group(2))) {
                breach("the constant " + constant.group(1));
            }
        }
        if (found != 2) {
            breach("the document has " + found + " constants");
        }
    }

    private static void members() {
        Set<String> face = new TreeSet<>();
        for (Method one : AgingPortrait.class.getMethods()) {
            face.add(one.getName());
        }
        List<Class<?>> classes = new ArrayList<>(List.of(AgingPortrait.class.getDeclaredClasses()));
        if (classes.size() > 12) {
            breach("rule 11: " + classes.size() + " classes inside");
        }
        classes.add(AgingPortrait.class);
        for (Class<?> one : classes) {
            if (one != AgingPortrait.class && !Modifier.isStatic(one.getModifiers())) {
                breach("rule 2: " + one + " is not static");
            }
            fields(one);
            for (Method method : one.getDeclaredMethods()) {
                if (method.getParameterCount() > 7) {
                    breach("rule 11: " + method);
                }
                boolean isFace = one == AgingPortrait.class && Modifier.isPublic(method.getModifiers());
                if (!isFace && face.contains(method.getName())) {
                    breach("rule 1: the name of " + method);
                }
            }
        }
    }

    private static void fields(Class<?> one) {
        int fields = 0;
        for (Field field : one.getDeclaredFields()) {
            int is = field.getModifiers();
            if (Modifier.isStatic(is)) {
                if (!Modifier.isFinal(is)) {
                    breach("rule 5: " + field);
                }
                boolean isShown = field.getName().equals("NONE") || field.getName().equals("NOTHING");
                if (one == AgingPortrait.class && Modifier.isPublic(is) != isShown) {
                    breach("rule 1: " + field);
                }
            } else {
                fields++;
                if (one == AgingPortrait.class && !Modifier.isPrivate(is)) {
                    breach("rule 1: " + field);
                }
            }
        }
        if (fields > 20) {
            breach("rule 11: " + one + " has " + fields + " fields");
        }
    }

    private static String bare(String source) {
        return source.replaceAll("(?s)/\\*.*?\\*/", "").replaceAll("//[^\n]*", "")
                .replaceAll("\"(\\\\.|[^\"\\\\])*\"", "\"\"").replaceAll("'(\\\\.|[^'\\\\])'", "' '");
    }

    private static void words(String source) {
        String bare = bare(source);
        String[] forbidden = {"throw", "throws", "try", "catch", "finally", "synchronized", "assert",
            "package", "import", "var", "yield", "native", "volatile", "transient", "strictfp", "goto",
            "protected", "instanceof", "float", "double", "equals", "hashCode", "toString"};
        for (String word : forbidden) {
            if (Pattern.compile("\\b" + word + "\\b").matcher(bare).find()) {
                breach("rules 3, 6: " + word);
            }
        }
        if (bare.contains("->") || bare.contains("::")) {
            breach("rule 2: a lambda or a method reference");
        }
        for (int i = 0; i < source.length(); i++) {
            if (source.charAt(i) > 126 || source.charAt(i) == '\t') {
                breach("rule 4: sign " + (int) source.charAt(i));
                return;
            }
        }
    }

    private static void library(String source) {
        Set<String> used = new TreeSet<>();
        Matcher call = Pattern.compile("\\b([A-Z][A-Za-z]+)\\.([a-z]\\w*)\\(").matcher(bare(source));
        while (call.find()) {
            used.add(call.group(1) + "." + call.group(2));
        }
        used.removeAll(Set.of("Math.min", "Math.max", "Math.abs", "Integer.bitCount", "System.arraycopy"));
        if (!used.isEmpty()) {
            breach("rule 4: " + used);
        }
    }

    /** By the source's layout: a method begins at four or eight blanks and ends at as many. */
    private static void sizes(String source) {
        String[] lines = source.split("\n");
        int start = 0;
        String end = "";
        for (int i = 0; i < lines.length; i++) {
            Matcher head = Pattern.compile("( {4}| {8})[a-z][^=]*\\)? \\{").matcher(lines[i]);
            if (lines[i].contains("class ")) {
                continue;
            }
            if (end.isEmpty() && head.matches()) {
                start = i;
                end = head.group(1) + "}";
            } else if (!end.isEmpty() && lines[i].equals(end)) {
                if (i - start + 1 > 60) {
                    breach("rule 11: " + (i - start + 1) + " lines in " + lines[start].trim());
                }
                end = "";
            }
            if (lines[i].length() > 110) {
                breach("line " + (i + 1) + " is long");
            }
        }
    }
}
