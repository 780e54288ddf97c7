import java.io.ByteArrayOutputStream;
import java.io.PrintStream;
import java.net.URL;
import java.net.URLClassLoader;
import java.nio.charset.StandardCharsets;
import java.nio.file.Files;
import java.nio.file.Path;
import java.util.ArrayList;
import java.util.List;
import java.util.regex.Matcher;
import java.util.regex.Pattern;
import java.util.stream.Stream;

/** README.md tells the truth: its example compiles and prints what it says, its files are there. */
public final class ReadmeTells {
    private static int wrong = 0;

    public static void main(String[] args) throws Exception {
        Path root = Path.of(args.length > 0 ? args[0] : ".");
        String readme = Files.readString(root.resolve("README.md"));
        example(root, readme);
        files(root, readme);
        tests(root, readme);
        System.out.println(wrong == 0 ? "README.md is right" : wrong + " things in README.md are wrong");
        if (wrong != 0) {
            System.exit(1);
        }
    }

    private static void wrong(String what) {
        wrong++;
        System.out.println(what);
    }

    private static void example(Path root, String readme) throws Exception {
        Matcher block = Pattern.compile("```java\n(.*?)```", Pattern.DOTALL).matcher(readme);
        if (!block.find()) {
            wrong("README.md has no example");
            return;
        }
        String program = block.group(1);
        if (block.find()) {
            wrong("README.md has a second example, which is not tried");
        }
        List<String> due = new ArrayList<>();
        for (String line : program.split("\n")) {
            Matcher told = Pattern.compile("say\\(.*\\); +// (-?\\d+): .+").matcher(line.strip());
            if (told.matches()) {
                due.add(told.group(1));
            } else if (line.strip().startsWith("say(")) {
                wrong("what it prints is not told: " + line.strip());
            }
        }
        if (due.size() < 20) {
            wrong("the example tells of " + due.size() + " calls only");
        }
        List<String> got = printed(root, program);
        for (int i = 0; i < Math.max(due.size(), got.size()); i++) {
            String one = i < got.size() ? got.get(i) : "nothing";
            String other = i < due.size() ? due.get(i) : "nothing";
            if (!one.equals(other)) {
                wrong("line " + (i + 1) + " of the example is " + one + ", README.md says " + other);
            }
        }
    }

    /** Compiles the program as README.md says and runs it: the lines that it prints. */
    private static List<String> printed(Path root, String program) throws Exception {
        Path folder = Files.createTempDirectory("readme");
        PrintStream out = System.out;
        ByteArrayOutputStream bytes = new ByteArrayOutputStream();
        try {
            Path source = folder.resolve("Example.java");
            Files.writeString(source, program);
            Process javac = new ProcessBuilder("javac", "-encoding", "UTF-8", "-d", folder.toString(),
                    root.resolve("src/main/java/AgingPortrait.java").toString(), source.toString())
                    .inheritIO().start();
            if (javac.waitFor() != 0) {
                wrong("the example does not compile");
                return List.of();
            }
            // without this test's own classes: the example must find all it needs where README.md says
            try (URLClassLoader loader = new URLClassLoader(new URL[] {folder.toUri().toURL()}, null)) {
                System.setOut(new PrintStream(bytes, true, StandardCharsets.UTF_8));
                loader.loadClass("Example").getMethod("main", String[].class)
                        .invoke(null, (Object) new String[0]);
            }
        } finally {
            System.setOut(out);
            remove(folder);
        }
        return bytes.toString(StandardCharsets.UTF_8).lines().toList();
    }

    private static void remove(Path folder) throws Exception {
        try (Stream<Path> all = Files.walk(folder)) {
            for (Path one : all.sorted((a, b) -> b.getNameCount() - a.getNameCount()).toList()) {
                Files.delete(one);
            }
        }
    }

    private static void files(Path root, String readme) {
        Matcher path = Pattern.compile("(\\.\\./shared|src|\\.ci)(/\\w+)+(\\.\\w+)?").matcher(readme);
        int found = 0;
        while (path.find()) {
            found++;
            if (!Files.exists(root.resolve(path.group()))) {
                wrong("README.md names " + path.group() + ", which is not there");
            }
        }
        if (found == 0) {
            wrong("README.md names no file");
        }
    }

    private static void tests(Path root, String readme) throws Exception {
        try (Stream<Path> all = Files.list(root.resolve("src/test/java"))) {
            for (Path test : all.sorted().toList()) {
                String name = test.getFileName().toString().replace(".java", "");
                if (!readme.contains("`" + name + "`")) {
                    wrong("README.md does not name the test " + name);
                }
            }
        }
    }
}
