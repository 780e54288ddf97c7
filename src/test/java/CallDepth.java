import java.io.PrintWriter;
import java.io.StringWriter;
import java.nio.file.Path;
import java.util.ArrayList;
import java.util.List;
import java.util.Map;
import java.util.Optional;
import java.util.Set;
import java.util.TreeMap;
import java.util.TreeSet;
import java.util.regex.Matcher;
import java.util.regex.Pattern;
import java.util.spi.ToolProvider;

/**
 * LANGUAGE.md's rules 8 and 11 as the compiled class tells them: calls that are no recursion go at
 * most eight deep, and what calls itself (alone or in a round) is known and has its depth guarded.
 */
public final class CallDepth {
    private static final int DEEPEST = 8;
    // rounds of calls; the depth of each is an argument that is looked at before it goes on
    private static final Set<String> ROUNDS = Set.of(
            "Planner.walk", "Stemma.fits",
            "Reader.readTest Reader.readBoth Reader.readPlain",
            "Reader.readSum Reader.readTerm Reader.readPart");

    private final Map<String, Set<String>> calls = new TreeMap<>();
    private final Map<String, Integer> depths = new TreeMap<>();
    private int wrong = 0;

    public static void main(String[] args) throws Exception {
        CallDepth all = new CallDepth();
        Optional<ToolProvider> javap = ToolProvider.findFirst("javap");
        if (javap.isEmpty()) {
            System.out.println("no javap in this java: the depth of calls is not looked at");
            return;
        }
        all.read(javap.get());
        all.rounds();
        all.depths();
        System.out.println(all.wrong == 0 ? all.calls.size() + " methods, no call too deep"
                : all.wrong + " breaches");
        if (all.wrong != 0) {
            System.exit(1);
        }
    }

    private void breach(String what) {
        wrong++;
        System.out.println(what);
    }

    private static String shortName(String name) {
        return name.replace("AgingPortrait$", "");
    }

    /** Which method calls which, by javap: its heads stand at two blanks, its steps deeper. */
    private void read(ToolProvider javap) throws Exception {
        Path home = Path.of(AgingPortrait.class.getProtectionDomain().getCodeSource().getLocation().toURI());
        List<Class<?>> classes = new ArrayList<>(List.of(AgingPortrait.class.getDeclaredClasses()));
        classes.add(AgingPortrait.class);
        Pattern head = Pattern.compile("  \\S.*?(\\S+)\\(.*\\);");
        Pattern step = Pattern.compile(".*invoke\\w+ +#.*// (?:Interface)?Method ([^:]+):.*");
        for (Class<?> one : classes) {
            StringWriter told = new StringWriter();
            javap.run(new PrintWriter(told), new PrintWriter(System.out), "-p", "-c", "-cp",
                    home.toString(), one.getName());
            String here = one.getName();
            String method = "";
            for (String line : told.toString().split("\\R")) {
                Matcher is = head.matcher(line);
                Matcher called = step.matcher(line);
                if (is.matches()) {
                    method = is.group(1).equals(here) ? here + ".\"<init>\"" : here + "." + is.group(1);
                    calls.computeIfAbsent(shortName(method), k -> new TreeSet<>());
                } else if (called.matches()) {
                    String name = called.group(1).indexOf('.') < 0 ? here + "." + called.group(1) : called.group(1);
                    if (name.startsWith("AgingPortrait")) {
                        calls.get(shortName(method)).add(shortName(name));
                    }
                }
            }
        }
        if (calls.size() < 100 || !calls.containsKey("AgingPortrait.orders")) {
            breach("javap told of " + calls.size() + " methods only");
        }
    }

    private Set<String> reached(String from) {
        Set<String> all = new TreeSet<>();
        List<String> open = new ArrayList<>(calls.get(from));
        while (!open.isEmpty()) {
            String next = open.remove(open.size() - 1);
            if (calls.containsKey(next) && all.add(next)) {
                open.addAll(calls.get(next));
            }
        }
        return all;
    }

    private void rounds() {
        for (String method : calls.keySet()) {
            Set<String> round = round(method);
            boolean known = round.isEmpty();
            for (String one : ROUNDS) {
                known |= Set.of(one.split(" ")).equals(round);
            }
            if (!known) {
                breach("rule 8: " + round + " call one another, and this test does not know them");
            }
        }
    }

    /** The methods that stand open below themselves together with this one. */
    private Set<String> round(String method) {
        Set<String> round = new TreeSet<>();
        for (String other : reached(method)) {
            if (reached(other).contains(method)) {
                round.add(other);
            }
        }
        return round;
    }

    private void depths() {
        for (String method : calls.keySet()) {
            if (depth(method) > DEEPEST) {
                breach("rule 11: " + depth(method) + " calls deep from " + method);
            }
        }
    }

    /** How many calls stand open at most, this one counted; a round counts as one. */
    private int depth(String method) {
        if (!depths.containsKey(method)) {
            Set<String> round = new TreeSet<>(round(method));
            round.add(method);
            int deepest = 0;
            for (String one : round) {
                for (String next : calls.get(one)) {
                    if (!round.contains(next) && calls.containsKey(next)) {
                        deepest = Math.max(deepest, depth(next));
                    }
                }
            }
            depths.put(method, deepest + 1);
        }
        return depths.get(method);
    }
}
