import java.lang.reflect.Method;
import java.lang.reflect.Modifier;
import java.util.ArrayList;
import java.util.HashMap;
import java.util.List;
import java.util.Map;
import java.util.Set;

/**
 * Sentences of the document, each tried by runs of calls that are told as text, a line a call.
 *
 * <pre>
 *   first(3, 9) -> 0             the call answers so; if it is one that status() tells of, it was
 *                                not REFUSED: status() is 0 behind it, count(7 .. 11) are as before
 *   first(3, 9)                  as above, whatever it answers
 *   first(12, 0) -> refused -1   it answers -1, status() tells it, count(7) is one more, count(8 ..
 *                                11) are as before, and all else is as if the call had not been
 *   16 times paint(0) -> 0       so often
 *   tape TEXT                    puts a text behind the TAPE, the rest of its last twenty bytes cut
 *   row 9 10 255 -> 1            puts these bytes on the TAPE, then row()
 *   law TEXT -> 0                puts the text on the TAPE, then law()
 *   law TEXT -> fault 7          law() is refused by -6, and fault() tells the place
 *   rules TEXT                   a law of the text is put in force
 *   orders TEXT -> 3             as for law
 *   orders TEXT -> refused -3 by 1     stopped() tells 1
 *   new                          goes on with a new object
 * </pre>
 *
 * A text may stand between two ' (so that blanks can stand at its ends); %XX is the byte XX. NONE,
 * NOTHING, MIN, MAX are numbers, too. What only asks must change nothing: that is tried at the end.
 * Each look is taken at an object made for it by the same calls, so that none of them gets more
 * than the 512 calls for which the document speaks.
 */
final class Edges {
    private static final int MOST_CALLS = 512;
    private static final int[] CODES = {-1, -2, -3, -5, -6};
    private static final Set<String> TOLD_BY_STATUS = Set.of("first", "painter", "err", "terms",
            "scar", "heal", "row", "law", "orders", "force", "paint", "scrape", "copy", "touch",
            "forge", "claimant", "claim", "century", "image", "back");
    private static final Set<String> CHANGING = Set.of("feed", "end", "burn");
    private static final Map<String, Method> FACE = face();

    private static int passed = 0;
    private static int failed = 0;

    private final String where;
    private final List<Step> past = new ArrayList<>();
    private boolean fine = true;

    private Edges(String its) {
        where = its;
    }

    /** Tries one sentence: where it stands, what it says, the runs. */
    static void sentence(String where, String says, String... runs) {
        Edges edges = new Edges(where + ", \"" + says + "\"");
        for (String run : runs) {
            for (String line : run.split("\n")) {
                edges.line(line.strip());
            }
        }
        edges.endRun();
        if (edges.fine) {
            passed++;
        } else {
            failed++;
        }
    }

    /** The line once for each number, which stands for each #. */
    static String each(int from, int to, String line) {
        StringBuilder all = new StringBuilder();
        for (int i = from; i <= to; i++) {
            all.append(line.replace("#", Integer.toString(i))).append('\n');
        }
        return all.toString();
    }

    /** So many of a piece, another one between. */
    static String many(String piece, String between, int n) {
        StringBuilder all = new StringBuilder(piece);
        for (int i = 1; i < n; i++) {
            all.append(between).append(piece);
        }
        return all.toString();
    }

    static void close() {
        System.out.println(passed + " passed, " + failed + " failed");
        if (failed != 0 || passed == 0) {
            System.exit(1);
        }
    }

    private static Map<String, Method> face() {
        Map<String, Method> face = new HashMap<>();
        for (Method one : AgingPortrait.class.getDeclaredMethods()) {
            if (Modifier.isPublic(one.getModifiers())) {
                face.put(one.getName(), one);
            }
        }
        return face;
    }

    private void wrong(String line, String what) {
        fine = false;
        System.out.println(where + ": " + line + ": " + what);
    }

    private void line(String line) {
        if (line.equals("new")) {
            endRun();
        } else if (!line.isEmpty()) {
            Step step = new Step(line);
            for (int i = 0; i < step.times; i++) {
                take(step);
                past.add(step);
            }
        }
    }

    private void take(Step step) {
        Desk desk = replayed(past);
        long got = desk.run(step);
        if (step.code != 0) {
            due(step, "", got, step.code);
        } else if (step.hasAnswer) {
            due(step, "", got, step.answer);
        }
        if (step.place != null) {
            String teller = step.code == -6 ? "fault()" : "stopped()";
            due(step, " then " + teller, desk.call(new Call(teller)), step.place);
        }
        if (TOLD_BY_STATUS.contains(step.name())) {
            status(step);
        }
        if (step.code != 0) {
            if (step.code == -6 && step.name().equals("orders")) {
                due(step, " then stopped()", desk.call(new Call("stopped()")), -1);
            }
            List<Step> without = new ArrayList<>(past);
            if (Set.of("row", "law", "orders").contains(step.name())) {
                // all that such a call changes when it is refused: it empties the TAPE
                without.add(new Step("end(0) -> 0"));
            }
            List<Step> with = new ArrayList<>(past);
            with.add(step);
            compare(step.line, with, without, step.hides());
        }
    }

    private void status(Step step) {
        Desk desk = replayed(past);
        long[] before = desk.refusals();
        Desk behind = replayed(past);
        behind.run(step);
        due(step, " then status()", behind.call(new Call("status()")), step.code);
        long[] then = behind.refusals();
        for (int i = 0; i < CODES.length; i++) {
            long more = CODES[i] == step.code ? 1 : 0;
            due(step, " then count(" + (7 + i) + ")", then[i], before[i] + more);
        }
    }

    /** What only asks, left out, is not missed. */
    private void endRun() {
        List<Step> changing = new ArrayList<>();
        for (Step step : past) {
            if (TOLD_BY_STATUS.contains(step.name()) || CHANGING.contains(step.name())) {
                changing.add(step);
            }
        }
        if (changing.size() < past.size()) {
            compare("all that asks", past, changing, Set.of());
        }
        past.clear();
    }

    private void compare(String line, List<Step> one, List<Step> other, Set<String> hidden) {
        for (int probe = 0; probe < Desk.PROBES; probe++) {
            List<String> first = replayed(one).probed(probe);
            List<String> second = replayed(other).probed(probe);
            for (int i = 0; i < first.size() && i < second.size(); i++) {
                String told = first.get(i);
                String call = told.substring(0, told.indexOf(' '));
                if (!told.equals(second.get(i)) && !hidden.contains(call)) {
                    wrong(line, "behind it " + told + ", but without it " + second.get(i));
                    return;
                }
            }
            if (first.size() != second.size()) {
                wrong(line, "behind it there is another number of things");
                return;
            }
        }
    }

    private void due(Step step, String more, long got, long want) {
        if (got != want) {
            wrong(step.line + more, "answered " + got + ", due is " + want);
        }
    }

    private Desk replayed(List<Step> steps) {
        Desk desk = new Desk();
        for (Step step : steps) {
            desk.run(step);
        }
        return desk;
    }

    /** One call of the face. */
    private static final class Call {
        final String name;
        final Object[] numbers;

        Call(String text) {
            int open = text.indexOf('(');
            name = open < 0 ? text : text.substring(0, open);
            if (!FACE.containsKey(name) || !text.endsWith(")")) {
                throw new IllegalStateException("no call: " + text);
            }
            String inside = text.substring(open + 1, text.length() - 1).strip();
            String[] parts = inside.isEmpty() ? new String[0] : inside.split(",");
            numbers = new Object[parts.length];
            for (int i = 0; i < parts.length; i++) {
                numbers[i] = (int) number(parts[i].strip());
            }
        }
    }

    private static long number(String text) {
        switch (text) {
            case "NONE": return -1;
            case "NOTHING": return -1000000;
            case "MIN": return Integer.MIN_VALUE;
            case "MAX": return Integer.MAX_VALUE;
            default: return Long.parseLong(text);
        }
    }

    /** A line: the calls it stands for, and what is due of the last one. */
    private static final class Step {
        final String line;
        final List<Call> calls = new ArrayList<>();
        int times = 1;
        boolean hasAnswer;
        long answer;
        int code;
        Long place;
        final boolean isRules;

        Step(String its) {
            line = its;
            String text = its;
            int arrow = text.lastIndexOf(" -> ");
            if (arrow >= 0) {
                wants(text.substring(arrow + 4).strip());
                text = text.substring(0, arrow);
            }
            if (text.matches("\\d+ times .*")) {
                times = Integer.parseInt(text.substring(0, text.indexOf(' ')));
                text = text.substring(text.indexOf(" times ") + 7);
            }
            int blank = text.indexOf(' ');
            String word = blank < 0 ? text : text.substring(0, blank);
            String rest = blank < 0 ? "" : text.substring(blank + 1);
            switch (word) {
                case "tape":
                    feed(bytesOf(rest), false);
                    break;
                case "row":
                    feed(rest.isEmpty() ? new int[0] : numbersOf(rest), true);
                    calls.add(new Call("row()"));
                    break;
                case "law":
                case "orders":
                    feed(bytesOf(rest), true);
                    calls.add(new Call(word + "()"));
                    break;
                case "rules":
                    feed(bytesOf(rest), true);
                    calls.add(new Call("law()"));
                    break;
                default:
                    calls.add(new Call(text));
            }
            isRules = word.equals("rules");
        }

        private void wants(String due) {
            if (due.startsWith("fault ")) {
                code = -6;
                place = number(due.substring(6));
            } else if (due.startsWith("refused ")) {
                String[] parts = due.substring(8).split(" by ");
                code = (int) number(parts[0]);
                place = parts.length > 1 ? (Long) number(parts[1]) : null;
            } else {
                hasAnswer = true;
                answer = number(due);
            }
        }

        String name() {
            return calls.get(calls.size() - 1).name;
        }

        /** What may be another one behind the refused call, status() and its counts aside. */
        Set<String> hides() {
            if (name().equals("orders")) {
                return Set.of("status()", "count(7)", "count(8)", "count(9)", "count(10)",
                        "count(11)", "fault()", "stopped()");
            }
            if (name().equals("law") && code == -6) {
                return Set.of("status()", "count(11)", "fault()");
            }
            return Set.of("status()", "count(7)", "count(8)", "count(9)", "count(10)", "count(11)");
        }

        private void feed(int[] bytes, boolean isAlone) {
            for (int i = 0; i < bytes.length; i += 20) {
                StringBuilder call = new StringBuilder("feed(");
                for (int k = 0; k < 20; k += 4) {
                    int word = 0;
                    for (int j = i + k; j < i + k + 4; j++) {
                        // what stands behind the text must not be seen: no blank, no end
                        word = word << 8 | (j < bytes.length ? bytes[j] : 0x99);
                    }
                    call.append(k == 0 ? "" : ", ").append(word);
                }
                calls.add(new Call(call + ")"));
            }
            if (isAlone || bytes.length % 20 != 0) {
                calls.add(new Call("end(" + bytes.length + ")"));
            }
        }

        private static int[] numbersOf(String rest) {
            String[] parts = rest.strip().split(" +");
            int[] bytes = new int[parts.length];
            for (int i = 0; i < parts.length; i++) {
                bytes[i] = Integer.parseInt(parts[i]);
            }
            return bytes;
        }

        private static int[] bytesOf(String rest) {
            String text = rest;
            if (text.startsWith("'")) {
                text = text.substring(1, text.lastIndexOf('\''));
            }
            List<Integer> bytes = new ArrayList<>();
            for (int i = 0; i < text.length(); i++) {
                if (text.charAt(i) == '%') {
                    bytes.add(Integer.parseInt(text.substring(i + 1, i + 3), 16));
                    i += 2;
                } else {
                    bytes.add((int) text.charAt(i));
                }
            }
            return bytes.stream().mapToInt(Integer::intValue).toArray();
        }
    }

    /** An object and how many calls it has had. */
    private static final class Desk {
        static final int PROBES = 12;
        private final AgingPortrait x = new AgingPortrait();
        private int calls = 0;
        private final List<String> told = new ArrayList<>();

        long call(Call call) {
            calls++;
            if (calls > MOST_CALLS) {
                throw new IllegalStateException("more than 512 calls of one object");
            }
            try {
                return ((Number) FACE.get(call.name).invoke(x, call.numbers)).longValue();
            } catch (ReflectiveOperationException e) {
                throw new IllegalStateException("the machine threw in " + call.name, e);
            }
        }

        long run(Step step) {
            long got = 0;
            for (Call call : step.calls) {
                got = call(call);
            }
            if (step.isRules && got >= 0) {
                call(new Call("force(" + got + ")"));
            }
            return got;
        }

        long[] refusals() {
            long[] counts = new long[CODES.length];
            for (int i = 0; i < CODES.length; i++) {
                counts[i] = call(new Call("count(" + (7 + i) + ")"));
            }
            return counts;
        }

        private long ask(String call) {
            long got = call(new Call(call));
            told.add(call + " is " + got);
            return got;
        }

        private int count(int what) {
            return (int) ask("count(" + what + ")");
        }

        /** One look at what the object holds; some of them change it, so it is the last one. */
        List<String> probed(int probe) {
            // six looks at what is, then three of them at what each IMAGE keeps
            boolean ofImage = probe >= 6;
            if (ofImage && ask("back(" + probe % 2 + ")") != 0) {
                return told;
            }
            switch (ofImage ? (probe - 6) / 2 : probe) {
                case 0:
                    facts();
                    break;
                case 1:
                    pictures();
                    break;
                case 2:
                    laws();
                    break;
                case 3:
                    tapeAsRow();
                    break;
                case 4:
                    ask("law()");
                    ask("fault()");
                    laws();
                    break;
                default:
                    ask("orders()");
                    ask("fault()");
                    ask("stopped()");
                    facts();
                    break;
            }
            return told;
        }

        private void facts() {
            for (int what = 6; what <= 17; what++) {
                count(what);
            }
            ask("status()");
            ask("fault()");
            ask("stopped()");
            ask("flakes()");
            for (int cell = 0; cell < 12; cell++) {
                ask("drawn(" + cell + ")");
            }
            for (int painter = 0; painter < 5; painter++) {
                ask("drawn(" + (100 + painter) + ")");
            }
            int painters = count(0);
            for (int painter = 0; painter < painters; painter++) {
                for (int what = 0; what < 5; what++) {
                    ask("of(" + painter + "," + what + ")");
                }
            }
            int claimants = count(5);
            for (int claimant = 0; claimant < claimants; claimant++) {
                for (int what = 0; what < 4; what++) {
                    ask("born(" + claimant + "," + what + ")");
                }
            }
            int years = count(3);
            for (int layer = 0; layer <= years; layer++) {
                ask("layer(" + layer + ",1)");
                for (int cell = 0; cell < 12; cell++) {
                    ask("tone(" + layer + "," + cell + ")");
                }
            }
            count(1);
            count(2);
            count(4);
        }

        private void pictures() {
            int copies = count(4);
            for (int copy = 0; copy < copies; copy++) {
                for (int cell = 0; cell < 12; cell++) {
                    ask("touch(" + copy + "," + cell + ",0)");
                }
            }
            ask("force(-1)");
            int[] years = {0, 1, 2, 3, 5, 8, 50, 98, 99};
            for (int cell = 0; cell < 12; cell++) {
                for (int year : years) {
                    ask("looks(" + cell + "," + year + ",0)");
                }
            }
        }

        private void laws() {
            int laws = count(1);
            int painters = count(0);
            int claimants = count(5);
            for (int law = 0; law < laws; law++) {
                ask("force(" + law + ")");
                for (int cell = 0; cell < 12; cell += 5) {
                    ask("looks(" + cell + ",3,0)");
                    ask("looks(" + cell + ",3,1)");
                }
                for (int painter = 0; painter < painters; painter++) {
                    ask("asks(" + painter + ",3,0)");
                    ask("asks(" + painter + ",3,1)");
                }
                for (int claimant = 0; claimant < claimants; claimant++) {
                    ask("stands(" + claimant + ",30,1)");
                    ask("stands(" + claimant + ",30,2)");
                }
            }
        }

        private void tapeAsRow() {
            count(6);
            ask("row()");
            ask("flakes()");
            for (int cell = 0; cell < 12; cell++) {
                ask("tone(0," + cell + ")");
            }
        }
    }
}
