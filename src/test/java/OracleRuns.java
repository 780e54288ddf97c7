import java.util.ArrayList;
import java.util.HashMap;
import java.util.List;
import java.util.Map;
import java.util.TreeSet;

/**
 * Many runs of drawn calls: each answer is compared to that of a second program, which goes a
 * plainer, slower way (trees of expressions, all rows one by one, pictures painted forwards).
 */
public final class OracleRuns {
    private static final int RUNS = 6000;
    private static final int CALLS = 110;
    // the document speaks of no later call of an object
    private static final int MOST_CALLS = 512;
    // kept for what is asked in the end
    private static final int LAST_SWEEP = 180;
    private static final int MOST_CALLS_OF_ONE = 40;

    public static void main(String[] args) {
        int runs = args.length > 1 ? Integer.parseInt(args[1]) : RUNS;
        long start = args.length > 2 ? Long.parseLong(args[2]) : 1;
        int wrong = 0;
        for (int i = 0; i < runs && wrong < 5; i++) {
            Run run = new Run(start + i);
            if (!run.agrees()) {
                wrong++;
                System.out.println("run " + (start + i) + ":");
                for (String line : run.told) {
                    System.out.println("  " + line);
                }
            }
        }
        System.out.println(runs + " runs, " + wrong + " wrong");
        if (wrong != 0) {
            System.exit(1);
        }
    }

    /** Draws, always the same ones for the same seed. */
    private static final class Draws {
        private long state;

        Draws(long seed) {
            state = seed * 0x9E3779B97F4A7C15L + 77;
        }

        int of(int bound) {
            state = state * 6364136223846793005L + 1442695040888963407L;
            return (int) ((state >>> 33) % bound);
        }

        boolean once(int in) {
            return of(in) == 0;
        }

        String one(String... texts) {
            return texts[of(texts.length)];
        }
    }

    /** One run on a new object of each of the two. */
    private static final class Run {
        final List<String> told = new ArrayList<>();
        private final Draws draws;
        private final AgingPortrait x = new AgingPortrait();
        private final Oracle y = new Oracle();
        private boolean agreed = true;
        private boolean sweeping;
        private int used;
        private int asked;
        private int chance;
        private final int style;

        Run(long seed) {
            draws = new Draws(seed);
            style = draws.of(4);
        }

        boolean agrees() {
            for (int i = 0; i < CALLS && agreed && hasRoom(MOST_CALLS_OF_ONE); i++) {
                callOne();
                if (agreed && draws.once(30) && hasRoom(MOST_CALLS_OF_ONE)) {
                    sweep(MOST_CALLS_OF_ONE / 2);
                }
            }
            if (agreed) {
                sweep(MOST_CALLS - used);
            }
            return agreed;
        }

        private boolean hasRoom(int calls) {
            return used + calls + LAST_SWEEP <= MOST_CALLS;
        }

        private void same(String call, long got, long want) {
            used++;
            if (agreed && (!sweeping || got != want)) {
                told.add(call + " = " + got);
            }
            if (got != want && agreed) {
                told.add("  due is " + want);
                agreed = false;
            }
        }

        /** A number mostly from the span, at times around its ends or far off. */
        private int num(int low, int high) {
            if (draws.once(25)) {
                switch (draws.of(6)) {
                    case 0: return low - 1;
                    case 1: return high + 1;
                    case 2: return Integer.MIN_VALUE;
                    case 3: return Integer.MAX_VALUE;
                    case 4: return low - 2;
                    default: return high + 2;
                }
            }
            return low + draws.of(high - low + 1);
        }

        private int some(int count) {
            return num(0, Math.max(0, count - 1));
        }

        private void callOne() {
            int kind = draws.of(100);
            if (kind < 12) {
                lay();
            } else if (kind < 36) {
                text(draws.of(5) < 2);
            } else if (kind < 56) {
                work();
            } else if (kind < 66) {
                people();
            } else if (kind < 72) {
                keep();
            } else {
                question();
            }
        }

        private void lay() {
            int a;
            int b;
            int c;
            switch (draws.of(8)) {
                case 0:
                    a = num(0, 11);
                    b = num(0, 9);
                    same("first(" + a + ", " + b + ")", x.first(a, b), y.first(a, b));
                    break;
                case 1:
                case 2:
                    a = num(1, style == 0 ? 2 : 9);
                    b = num(0, style == 1 ? 3 : 99);
                    same("painter(" + a + ", " + b + ")", x.painter(a, b), y.painter(a, b));
                    break;
                case 3:
                    a = some(y.now.painters.size());
                    b = num(0, 2);
                    c = draws.once(2) ? num(2, 4) : num(0, 6);
                    same("err(" + a + ", " + b + ", " + c + ")", x.err(a, b, c), y.err(a, b, c));
                    break;
                case 4:
                case 5:
                    a = num(0, 4);
                    b = num(0, new int[] {99, 5, 9, 300, 3}[a < 0 || a > 4 ? 0 : a]);
                    same("terms(" + a + ", " + b + ")", x.terms(a, b), y.terms(a, b));
                    break;
                case 6:
                    a = num(0, 11);
                    b = draws.once(2) ? num(0, 9) : num(0, 99);
                    c = num(0, 9);
                    same("scar(" + a + ", " + b + ", " + c + ")", x.scar(a, b, c), y.scar(a, b, c));
                    break;
                default:
                    a = some(y.now.scars.size());
                    same("heal(" + a + ")", x.heal(a), y.heal(a));
                    break;
            }
        }

        private void text(boolean orders) {
            String text;
            if (draws.once(8)) {
                StringBuilder row = new StringBuilder();
                int n = draws.of(16);
                for (int i = 0; i < n; i++) {
                    row.append((char) (draws.once(6) ? draws.of(256) : draws.of(10)));
                }
                feed(row.toString());
                same("row()", x.row(), y.row());
                same("flakes()", x.flakes(), y.flakes());
                return;
            }
            Writer writer = new Writer(draws, orders);
            text = writer.text();
            feed(text);
            if (orders) {
                same("orders() of " + text, x.orders(), y.orders());
                same("stopped()", x.stopped(), y.stopped());
            } else {
                same("law() of " + text, x.law(), y.law());
                if (draws.of(4) > 0) {
                    int last = y.now.laws.size() - 1;
                    same("force(" + last + ")", x.force(last), y.force(last));
                }
            }
            same("fault()", x.fault(), y.fault());
            same("status()", x.status(), y.status());
        }

        private void feed(String text) {
            for (int i = 0; i < text.length(); i += 20) {
                int[] words = new int[5];
                for (int k = 0; k < 20; k++) {
                    int sign = i + k < text.length() ? text.charAt(i + k) : draws.of(256);
                    words[k / 4] = words[k / 4] << 8 | sign;
                }
                same("feed", x.feed(words[0], words[1], words[2], words[3], words[4]),
                        y.feed(words[0], words[1], words[2], words[3], words[4]));
            }
            if (!draws.once(60)) {
                same("end(" + text.length() + ")", x.end(text.length()), y.end(text.length()));
            }
        }

        private void work() {
            int a;
            int b;
            int c;
            switch (draws.of(12)) {
                case 0:
                case 1:
                case 2:
                case 3:
                case 4:
                    a = some(y.now.painters.size());
                    same("paint(" + a + ")", x.paint(a), y.paint(a));
                    break;
                case 5:
                    same("scrape()", x.scrape(), y.scrape());
                    break;
                case 6:
                    same("copy()", x.copy(), y.copy());
                    break;
                case 7:
                case 8:
                    a = some(y.now.copies.size());
                    b = style == 2 ? num(0, 2) : num(0, 11);
                    c = style == 2 ? num(0, 1) : num(0, 9);
                    same("touch(" + a + ", " + b + ", " + c + ")", x.touch(a, b, c), y.touch(a, b, c));
                    break;
                case 9:
                    if (draws.once(3)) {
                        same("burn()", x.burn(), y.burn());
                    }
                    break;
                case 10:
                    a = num(1, Math.max(1, y.now.layers.size() - 1));
                    b = num(0, 11);
                    c = num(0, 9);
                    if (draws.once(3)) {
                        same("forge(" + a + ", " + b + ", " + c + ")", x.forge(a, b, c), y.forge(a, b, c));
                    }
                    break;
                default:
                    a = num(0, 1000000);
                    b = num(0, 40);
                    same("century(" + a + ", " + b + ")", x.century(a, b), y.century(a, b));
                    break;
            }
        }

        private void people() {
            if (draws.of(3) < 2) {
                int a = draws.once(2) ? -1 : num(-1, Math.max(0, y.now.claimants.size() - 1));
                int b = draws.once(2) ? num(0, 30) : num(0, 99);
                int c = draws.once(2) ? b + 1 + draws.of(30) : num(1, 150);
                int d = num(-1, 5);
                same("claimant(" + a + ", " + b + ", " + c + ", " + d + ")",
                        x.claimant(a, b, c, d), y.claimant(a, b, c, d));
            } else {
                int a = some(y.now.claimants.size());
                int b = num(0, 1);
                int c = b == 0 ? num(draws.once(2) ? -1 : 1, 150) : num(-1, 5);
                same("claim(" + a + ", " + b + ", " + c + ")", x.claim(a, b, c), y.claim(a, b, c));
            }
        }

        private void keep() {
            int k = num(0, 1);
            int a = draws.once(3) ? NONE : num(0, 5);
            switch (draws.of(4)) {
                case 0:
                    same("image(" + k + ")", x.image(k), y.image(k));
                    break;
                case 1:
                    same("back(" + k + ")", x.back(k), y.back(k));
                    break;
                case 2:
                    same("force(" + a + ")", x.force(a), y.force(a));
                    break;
                default:
                    int n = draws.once(2) ? y.tape.size() : num(0, 400);
                    same("end(" + n + ")", x.end(n), y.end(n));
                    break;
            }
        }

        private void question() {
            int layer = some(y.now.layers.size());
            int cell = num(0, 11);
            int year = num(0, 99);
            int n;
            switch (draws.of(30)) {
                case 0: case 1: case 2:
                    int by = num(0, 2);
                    n = num(0, draws.once(3) ? 4 : 3);
                    int what = num(0, 3 + Math.max(n, 0) % 7);
                    same("plan(" + by + ", " + n + ", " + what + ")", x.plan(by, n, what), y.plan(by, n, what));
                    break;
                case 3: case 4:
                    n = num(0, 10);
                    what = num(0, 2);
                    same("drift(" + cell + ", " + n + ", " + what + ")", x.drift(cell, n, what), y.drift(cell, n, what));
                    break;
                case 5:
                    n = num(-1, 9);
                    same("undoing(" + n + ")", x.undoing(n), y.undoing(n));
                    break;
                case 6: case 7:
                    what = num(0, y.now.copies.size());
                    same("tree(" + what + ")", x.tree(what), y.tree(what));
                    break;
                case 8:
                    same("trees()", x.trees(), y.trees());
                    break;
                case 9: case 10:
                    what = num(0, 1);
                    same("know(" + what + ")", x.know(what), y.know(what));
                    break;
                case 11:
                    n = some(y.now.copies.size());
                    what = num(0, 3);
                    same("dated(" + n + ", " + what + ")", x.dated(n, what), y.dated(n, what));
                    break;
                case 12:
                    n = num(1, 2);
                    same("missing(" + layer + ", " + n + ")", x.missing(layer, n), y.missing(layer, n));
                    break;
                case 13:
                    same("who(" + layer + ")", x.who(layer), y.who(layer));
                    break;
                case 14:
                    same("skipped()", x.skipped(), y.skipped());
                    break;
                case 15:
                    same("was(" + cell + ")", x.was(cell), y.was(cell));
                    break;
                case 16:
                    same("ways()", x.ways(), y.ways());
                    break;
                case 17: case 18:
                    n = some(y.now.claimants.size());
                    what = num(0, 3);
                    same("stands(" + n + ", " + year + ", " + what + ")", x.stands(n, year, what), y.stands(n, year, what));
                    break;
                case 19:
                    same("ruler(" + year + ")", x.ruler(year), y.ruler(year));
                    break;
                case 20:
                    n = num(-1, 8);
                    what = num(0, 2);
                    same("reign(" + n + ", " + what + ")", x.reign(n, what), y.reign(n, what));
                    break;
                case 21:
                    same("vacant()", x.vacant(), y.vacant());
                    break;
                case 22: case 23:
                    n = num(-1, 7);
                    same("line(" + year + ", " + n + ")", x.line(year, n), y.line(year, n));
                    break;
                case 24:
                    what = draws.once(2) ? num(0, 11) : num(100, 104);
                    same("drawn(" + what + ")", x.drawn(what), y.drawn(what));
                    break;
                case 25:
                    n = num(-1, 5);
                    int other = num(-1, 5);
                    same("like(" + n + ", " + other + ")", x.like(n, other), y.like(n, other));
                    break;
                case 26:
                    n = num(-1, 5);
                    same("near(" + n + ")", x.near(n), y.near(n));
                    break;
                case 27:
                    what = num(0, 1);
                    cell = num(-1, 11);
                    same("looks(" + cell + ", " + year + ", " + what + ")", x.looks(cell, year, what), y.looks(cell, year, what));
                    break;
                case 28:
                    n = some(y.now.painters.size());
                    what = num(0, 1);
                    same("asks(" + n + ", " + year + ", " + what + ")", x.asks(n, year, what), y.asks(n, year, what));
                    break;
                default:
                    what = num(0, 3);
                    same("layer(" + layer + ", " + what + ")", x.layer(layer, what), y.layer(layer, what));
                    break;
            }
        }

        /** Asks some of all there is to ask: as many as it may, on average. */
        private void sweep(int may) {
            // what a sweep asks changes nothing: only a wrong answer of it is told
            sweeping = true;
            asked = 0;
            chance = 0;
            sweepAll();
            chance = asked == 0 ? 0 : (int) (1000000L * may / asked);
            sweepAll();
            sweeping = false;
        }

        private boolean picks() {
            asked++;
            return used < MOST_CALLS && draws.of(1000000) < chance;
        }

        private void sweepAll() {
            for (int what = -1; what <= 18; what++) {
                if (picks()) {
                    same("count(" + what + ")", x.count(what), y.count(what));
                }
            }
            if (picks()) {
                same("status()", x.status(), y.status());
            }
            if (picks()) {
                same("fault()", x.fault(), y.fault());
            }
            if (picks()) {
                same("stopped()", x.stopped(), y.stopped());
            }
            if (picks()) {
                same("flakes()", x.flakes(), y.flakes());
            }
            for (int layer = -1; layer <= y.now.layers.size(); layer++) {
                for (int cell = -1; cell <= 12; cell++) {
                    if (picks()) {
                        same("tone(" + layer + ", " + cell + ")", x.tone(layer, cell), y.tone(layer, cell));
                    }
                }
                for (int what = -1; what <= 4; what++) {
                    if (picks()) {
                        same("layer(" + layer + ", " + what + ")", x.layer(layer, what), y.layer(layer, what));
                    }
                }
                if (picks()) {
                    same("money(" + layer + ")", x.money(layer), y.money(layer));
                }
                if (picks()) {
                    same("who(" + layer + ")", x.who(layer), y.who(layer));
                }
                for (int n = 0; n <= 3; n++) {
                    if (picks()) {
                        same("missing(" + layer + ", " + n + ")", x.missing(layer, n), y.missing(layer, n));
                    }
                }
            }
            if (picks()) {
                same("unlawful()", x.unlawful(), y.unlawful());
            }
            if (picks()) {
                same("broke()", x.broke(), y.broke());
            }
            if (picks()) {
                same("skipped()", x.skipped(), y.skipped());
            }
            if (picks()) {
                same("ways()", x.ways(), y.ways());
            }
            if (picks()) {
                same("trees()", x.trees(), y.trees());
            }
            if (picks()) {
                same("vacant()", x.vacant(), y.vacant());
            }
            for (int i = -2; i <= 12; i++) {
                if (picks()) {
                    same("was(" + i + ")", x.was(i), y.was(i));
                }
                if (picks()) {
                    same("drawn(" + i + ")", x.drawn(i), y.drawn(i));
                }
                if (picks()) {
                    same("near(" + i + ")", x.near(i), y.near(i));
                }
                for (int what = -1; what <= 5; what++) {
                    if (picks()) {
                        same("of(" + i + ", " + what + ")", x.of(i, what), y.of(i, what));
                    }
                    if (picks()) {
                        same("born(" + i + ", " + what + ")", x.born(i, what), y.born(i, what));
                    }
                    if (picks()) {
                        same("dated(" + i + ", " + what + ")", x.dated(i, what), y.dated(i, what));
                    }
                    if (picks()) {
                        same("reign(" + i + ", " + what + ")", x.reign(i, what), y.reign(i, what));
                    }
                }
                for (int other = -2; other <= 6; other++) {
                    if (picks()) {
                        same("like(" + i + ", " + other + ")", x.like(i, other), y.like(i, other));
                    }
                }
            }
            for (int i = -2; i <= 26; i++) {
                if (picks()) {
                    same("undoing(" + i + ")", x.undoing(i), y.undoing(i));
                }
            }
            for (int what = -1; what <= 7; what++) {
                if (picks()) {
                    same("tree(" + what + ")", x.tree(what), y.tree(what));
                }
                if (picks()) {
                    same("know(" + what + ")", x.know(what), y.know(what));
                }
                if (picks()) {
                    same("drawn(" + (99 + what) + ")", x.drawn(99 + what), y.drawn(99 + what));
                }
            }
            for (int year = -1; year <= 100; year += year > 5 && year < 90 ? 1 + draws.of(9) : 1) {
                sweepYear(year);
            }
            for (int by = -1; by <= 3; by++) {
                for (int n = -1; n <= (draws.once(20) ? 5 : 2); n++) {
                    for (int what = -1; what <= 4 + n; what++) {
                        if (picks()) {
                            same("plan(" + by + ", " + n + ", " + what + ")", x.plan(by, n, what), y.plan(by, n, what));
                        }
                    }
                }
            }
            for (int cell = 0; cell < 12; cell++) {
                int n = draws.of(11);
                for (int what = -1; what <= 3; what++) {
                    if (picks()) {
                        same("drift(" + cell + ", " + n + ", " + what + ")", x.drift(cell, n, what), y.drift(cell, n, what));
                    }
                }
            }
        }

        private void sweepYear(int year) {
            if (picks()) {
                same("ruler(" + year + ")", x.ruler(year), y.ruler(year));
            }
            for (int i = -2; i <= 12; i++) {
                if (picks()) {
                    same("line(" + year + ", " + i + ")", x.line(year, i), y.line(year, i));
                }
                for (int what = -1; what <= 4; what++) {
                    if (picks()) {
                        same("looks(" + i + ", " + year + ", " + what + ")", x.looks(i, year, what), y.looks(i, year, what));
                    }
                    if (picks()) {
                        same("asks(" + i + ", " + year + ", " + what + ")", x.asks(i, year, what), y.asks(i, year, what));
                    }
                    if (picks()) {
                        same("stands(" + i + ", " + year + ", " + what + ")", x.stands(i, year, what), y.stands(i, year, what));
                    }
                }
            }
        }
    }

    private static final int NONE = -1;

    /** Writes laws and orders, most of them readable. */
    private static final class Writer {
        private final Draws draws;
        private final boolean orders;

        Writer(Draws its, boolean asOrders) {
            draws = its;
            orders = asOrders;
        }

        String text() {
            StringBuilder text = new StringBuilder();
            int clauses = draws.once(12) ? 11 + draws.of(3) : 1 + draws.of(5);
            for (int i = 0; i < clauses; i++) {
                if (i > 0) {
                    text.append(draws.one(";", "; ", " ; "));
                }
                text.append(clauses > 5 ? small() : orders ? order() : clause());
            }
            if (draws.once(6)) {
                spoil(text);
            }
            return text.length() > 400 ? text.substring(0, 400) : text.toString();
        }

        private void spoil(StringBuilder text) {
            int at = draws.of(text.length() + 1);
            switch (draws.of(4)) {
                case 0:
                    text.setLength(at);
                    break;
                case 1:
                    text.insert(at, draws.one(" ", "0", "z", "!", ";", "(", "]", " if ", " 1001 ", " and ", "A", "\u00ff"));
                    break;
                case 2:
                    if (at < text.length()) {
                        text.deleteCharAt(at);
                    }
                    break;
                default:
                    if (at < text.length()) {
                        text.setCharAt(at, (char) (draws.once(2) ? 32 + draws.of(95) : draws.of(256)));
                    }
                    break;
            }
        }

        private String small() {
            return orders ? draws.one("copy", "scrape if years>9", "paint likest", "paint by 0")
                    : draws.one("bars if year=3", "looks 3", "lets cell", "asks 9", "ranks 5-claimant");
        }

        private String clause() {
            String kind = draws.one("looks", "looks", "lets", "asks", "ranks", "bars");
            String text = kind.equals("bars") ? kind : kind + " " + sum(0);
            return kind.equals("bars") || draws.once(2) ? text + " if " + test(0) : text;
        }

        private String order() {
            String text;
            switch (draws.of(9)) {
                case 0: case 1:
                    text = "paint likest";
                    break;
                case 2: case 3:
                    text = "paint cheapest";
                    break;
                case 4:
                    text = "paint by " + (draws.once(2) ? "" + draws.of(4) : sum(1));
                    break;
                case 5:
                    text = "scrape";
                    break;
                case 6:
                    text = "copy";
                    break;
                case 7:
                    text = "touch 0 at " + draws.of(13) + " with " + sum(1);
                    break;
                default:
                    text = "touch " + sum(1) + " at " + sum(1) + " with " + sum(1);
                    break;
            }
            if (draws.once(3)) {
                text += " times " + (draws.once(30) ? draws.of(25) : 1 + draws.of(4));
            }
            return draws.once(2) ? text + " if " + test(0) : text;
        }

        private String test(int depth) {
            StringBuilder text = new StringBuilder(plain(depth));
            for (int i = draws.of(3); i > 0; i--) {
                text.append(draws.one(" and ", " or ")).append(plain(depth));
            }
            return text.toString();
        }

        private String plain(int depth) {
            if (draws.once(6)) {
                return "not " + plain(depth);
            }
            if (depth < 9 && draws.once(7)) {
                return "(" + test(depth + 1) + ")";
            }
            return sum(depth + 1) + draws.one("<", ">", "=", " < ", " > ", " = ") + sum(depth + 1);
        }

        private String sum(int depth) {
            StringBuilder text = new StringBuilder(term(depth));
            for (int i = draws.of(3); i > 1; i--) {
                text.append(draws.one("+", "-", " + ", " - ")).append(term(depth));
            }
            return text.toString();
        }

        private String term(int depth) {
            StringBuilder text = new StringBuilder(part(depth));
            for (int i = draws.of(3); i > 1; i--) {
                text.append(draws.one("*", "/", " / ")).append(part(depth));
            }
            return text.toString();
        }

        private String part(int depth) {
            if (depth < 9 && draws.once(9)) {
                String in = "[" + sum(depth + 1) + "]";
                return draws.once(12) ? "[[[[[" + in + "]]]]]" : in;
            }
            if (draws.once(2)) {
                return "" + (draws.once(9) ? 1000 - draws.of(3) : draws.once(3) ? draws.of(100) : draws.of(10));
            }
            if (orders) {
                return draws.one("years", "unlike", "money", "copies", "age", "done", "tone " + draws.of(12), "tone" + draws.of(12));
            }
            return draws.one("cell", "age", "year", "painter", "price", "mood", "claimant", "born", "near", "children",
                    "cell", "age", "year", "year", "claimant");
        }
    }

    /** What cannot go on in a text. */
    private static final class Fault extends Exception {
        private static final long serialVersionUID = 1;
        final int place;

        Fault(int at) {
            super(null, null, false, false);
            place = at;
        }
    }

    private static final class Broken extends Exception {
        private static final long serialVersionUID = 1;

        Broken() {
            super(null, null, false, false);
        }
    }

    /** A refusal of an order. */
    private static final class Stop extends Exception {
        private static final long serialVersionUID = 1;
        final int code;

        Stop(int why) {
            super(null, null, false, false);
            code = why;
        }
    }

    /** A part of a tree of a SUM or TEST. */
    private static final class Node {
        final String deed;
        final long number;
        final Node left;
        final Node right;

        Node(String its, long value, Node one, Node other) {
            deed = its;
            number = value;
            left = one;
            right = other;
        }

        long work(Map<String, Integer> words) throws Broken {
            switch (deed) {
                case "number":
                    return number;
                case "not":
                    return left.work(words) == 0 ? 1 : 0;
                case "or":
                    return left.work(words) != 0 ? 1 : right.work(words);
                case "and":
                    return left.work(words) == 0 ? 0 : right.work(words);
                default:
                    break;
            }
            if (left == null) {
                return words.getOrDefault(deed, -1);
            }
            long a = left.work(words);
            long b = right.work(words);
            switch (deed) {
                case "<": return a < b ? 1 : 0;
                case ">": return a > b ? 1 : 0;
                case "=": return a == b ? 1 : 0;
                case "+": return whole(a + b);
                case "-": return whole(a - b);
                case "*": return whole(a * b);
                default:
                    if (b == 0) {
                        throw new Broken();
                    }
                    return a / b;
            }
        }

        private static long whole(long value) throws Broken {
            if (Math.abs(value) > 1000000000L) {
                throw new Broken();
            }
            return value;
        }
    }

    private static final class Clause {
        String kind;
        int times = 1;
        Node test;
        final List<Node> sums = new ArrayList<>();

        /** Whether it is so and not broken. */
        boolean wanted(Map<String, Integer> words) {
            try {
                return test == null || test.work(words) != 0;
            } catch (Broken broken) {
                return false;
            }
        }
    }

    /** Reads a text by its list of tokens. */
    private static final class Parser {
        private final List<String> tokens = new ArrayList<>();
        private final List<Integer> places = new ArrayList<>();
        private final boolean orders;
        private int at;
        private int parts;
        private int open;

        Parser(String text, boolean asOrders) {
            orders = asOrders;
            java.util.regex.Matcher m = java.util.regex.Pattern
                    .compile("[a-z]+|[0-9]+|[^ ]", java.util.regex.Pattern.DOTALL).matcher(text);
            while (m.find()) {
                tokens.add(m.group());
                places.add(m.start());
            }
            tokens.add("");
            places.add(text.length());
        }

        List<Clause> clauses() throws Fault {
            List<Clause> all = new ArrayList<>();
            do {
                if (all.size() == 12) {
                    throw fault();
                }
                all.add(orders ? order() : clause());
            } while (take(";"));
            if (!is("")) {
                throw fault();
            }
            return all;
        }

        private Fault fault() {
            return new Fault(places.get(at));
        }

        private boolean is(String token) {
            return tokens.get(at).equals(token);
        }

        private boolean isAny(String... some) {
            for (String token : some) {
                if (is(token)) {
                    return true;
                }
            }
            return false;
        }

        private boolean take(String token) {
            if (is(token)) {
                at++;
                return true;
            }
            return false;
        }

        private void must(String token) throws Fault {
            if (!take(token)) {
                throw fault();
            }
        }

        private String word() {
            return tokens.get(at++);
        }

        private int number(int low, int high) throws Fault {
            String token = tokens.get(at);
            if (token.isEmpty() || !Character.isDigit(token.charAt(0)) || token.charAt(0) > '9') {
                throw fault();
            }
            java.math.BigInteger value = new java.math.BigInteger(token);
            if (value.compareTo(java.math.BigInteger.valueOf(low)) < 0
                    || value.compareTo(java.math.BigInteger.valueOf(high)) > 0) {
                throw fault();
            }
            at++;
            return value.intValue();
        }

        private Clause clause() throws Fault {
            Clause clause = new Clause();
            if (!isAny("looks", "lets", "asks", "ranks", "bars")) {
                throw fault();
            }
            clause.kind = word();
            if (!clause.kind.equals("bars")) {
                clause.sums.add(sum());
            }
            clause.test = take("if") ? test() : null;
            return clause;
        }

        private Clause order() throws Fault {
            Clause order = new Clause();
            if (!isAny("paint", "scrape", "copy", "touch")) {
                throw fault();
            }
            order.kind = word();
            if (order.kind.equals("paint")) {
                if (!isAny("likest", "cheapest", "by")) {
                    throw fault();
                }
                order.kind = word();
                if (order.kind.equals("by")) {
                    order.sums.add(sum());
                }
            } else if (order.kind.equals("touch")) {
                order.sums.add(sum());
                must("at");
                order.sums.add(sum());
                must("with");
                order.sums.add(sum());
            }
            if (take("times")) {
                order.times = number(1, 20);
            }
            order.test = take("if") ? test() : null;
            return order;
        }

        private Node test() throws Fault {
            Node all = both();
            while (take("or")) {
                all = new Node("or", 0, all, both());
            }
            return all;
        }

        private Node both() throws Fault {
            Node all = plain();
            while (take("and")) {
                all = new Node("and", 0, all, plain());
            }
            return all;
        }

        private Node plain() throws Fault {
            if (take("not")) {
                return new Node("not", 0, plain(), null);
            }
            if (is("(")) {
                bracket();
                Node in = test();
                must(")");
                open--;
                return in;
            }
            Node left = sum();
            if (!isAny("<", ">", "=")) {
                throw fault();
            }
            String deed = word();
            return new Node(deed, 0, left, sum());
        }

        private void bracket() throws Fault {
            if (open == 8) {
                throw fault();
            }
            open++;
            at++;
        }

        private Node sum() throws Fault {
            Node all = term();
            while (isAny("+", "-")) {
                String deed = word();
                all = new Node(deed, 0, all, term());
            }
            return all;
        }

        private Node term() throws Fault {
            Node all = part();
            while (isAny("*", "/")) {
                String deed = word();
                all = new Node(deed, 0, all, part());
            }
            return all;
        }

        private Node part() throws Fault {
            if (is("[")) {
                bracket();
                Node in = sum();
                must("]");
                open--;
                return in;
            }
            if (parts == 50) {
                throw fault();
            }
            parts++;
            boolean word = orders ? isAny("years", "unlike", "money", "copies", "age", "done", "tone")
                    : isAny("cell", "age", "year", "painter", "price", "mood", "claimant", "born", "near", "children");
            if (!word) {
                return new Node("number", number(0, 1000), null, null);
            }
            String name = word();
            if (name.equals("tone")) {
                name += number(0, 11);
            }
            return new Node(name, 0, null, null);
        }
    }

    /** What an image keeps. */
    private static final class Held {
        final List<int[]> painters = new ArrayList<>();
        final List<int[]> scars = new ArrayList<>();
        int[] terms = {20, 3, 0, 100, 0};
        final List<List<Clause>> laws = new ArrayList<>();
        int force = -1;
        final List<int[]> layers = new ArrayList<>();
        final List<Integer> by = new ArrayList<>();
        final List<int[]> copies = new ArrayList<>();
        final List<int[]> claimants = new ArrayList<>();

        Held() {
            layers.add(new int[12]);
            by.add(-1);
        }

        Held twin() {
            Held twin = new Held();
            twin.layers.clear();
            twin.by.clear();
            each(painters, twin.painters);
            each(scars, twin.scars);
            twin.terms = terms.clone();
            twin.laws.addAll(laws);
            twin.force = force;
            each(layers, twin.layers);
            twin.by.addAll(by);
            each(copies, twin.copies);
            each(claimants, twin.claimants);
            return twin;
        }

        private static void each(List<int[]> from, List<int[]> to) {
            for (int[] one : from) {
                to.add(one.clone());
            }
        }

        int years() {
            return layers.size() - 1;
        }

        int[] seen() {
            return layers.get(years());
        }

        int age(int year) {
            int age = terms[0] + (terms[1] - 2) * year;
            return age < 0 ? 0 : age > 199 ? 199 : age;
        }

        private Map<String, Integer> words(int year) {
            Map<String, Integer> words = new HashMap<>();
            words.put("year", year);
            words.put("mood", terms[2]);
            words.put("age", age(year));
            return words;
        }

        /** What the last clause of the kind that holds tells; null: none holds. */
        private Long told(String kind, Map<String, Integer> words) {
            Long told = null;
            if (force < 0) {
                return null;
            }
            for (Clause clause : laws.get(force)) {
                if (clause.kind.equals(kind) && clause.wanted(words)) {
                    try {
                        told = clause.sums.isEmpty() ? 1L : clause.sums.get(0).work(words);
                    } catch (Broken broken) {
                        continue;
                    }
                }
            }
            return told;
        }

        private static int within(long value, int high) {
            return value < 0 ? 0 : value > high ? high : (int) value;
        }

        int looks(int cell, int year) {
            for (int from = year; from >= 0; from--) {
                for (int i = scars.size() - 1; i >= 0; i--) {
                    int[] scar = scars.get(i);
                    if (scar[0] == cell && scar[1] == from) {
                        return scar[2];
                    }
                }
            }
            Map<String, Integer> words = words(year);
            words.put("cell", cell);
            Long told = told("looks", words);
            return told != null ? within(told, 9) : age(year) >= 90 ? 9 : age(year) / 10;
        }

        int lets(int cell, int year) {
            Map<String, Integer> words = words(year);
            words.put("cell", cell);
            Long told = told("lets", words);
            return told == null ? 9 : within(told, 9);
        }

        private Map<String, Integer> painterWords(int painter, int year) {
            Map<String, Integer> words = words(year);
            words.put("painter", painter);
            words.put("price", painters.get(painter)[1]);
            return words;
        }

        int asks(int painter, int year) {
            Long told = told("asks", painterWords(painter, year));
            return told == null ? painters.get(painter)[1] : within(told, 999);
        }

        boolean barred(int painter, int year) {
            return told("bars", painterWords(painter, year)) != null;
        }

        private Map<String, Integer> claimantWords(int claimant, int year) {
            Map<String, Integer> words = words(year);
            int[] one = claimants.get(claimant);
            words.put("claimant", claimant);
            words.put("born", one[1]);
            words.put("age", year - one[1]);
            words.put("near", one[3] >= 0 && one[3] < copies.size() ? unlike(copies.get(one[3]), seen()) : -1);
            words.put("children", children(claimant, year));
            return words;
        }

        int ranks(int claimant, int year) {
            Long told = told("ranks", claimantWords(claimant, year));
            return told == null ? claimant : within(told, 999);
        }

        boolean out(int claimant, int year) {
            return told("bars", claimantWords(claimant, year)) != null;
        }

        boolean alive(int claimant, int year) {
            int[] one = claimants.get(claimant);
            return year >= one[1] && year < one[2];
        }

        int children(int claimant, int year) {
            int n = 0;
            for (int i = 0; i < claimants.size(); i++) {
                n += claimants.get(i)[0] == claimant && alive(i, year) ? 1 : 0;
            }
            return n;
        }

        static int unlike(int[] one, int[] other) {
            int n = 0;
            for (int cell = 0; cell < 12; cell++) {
                n += one[cell] != other[cell] ? 1 : 0;
            }
            return n;
        }

        int far(int[] picture, int year) {
            int far = 0;
            for (int cell = 0; cell < 12; cell++) {
                far += Math.abs(picture[cell] - looks(cell, year));
            }
            return far;
        }

        int firstFar(int[] picture, int year) {
            for (int cell = 0; cell < 12; cell++) {
                if (Math.abs(picture[cell] - looks(cell, year)) > lets(cell, year)) {
                    return cell;
                }
            }
            return -1;
        }

        int brush(int painter, int cell, int tone, int year) {
            int[] his = painters.get(painter);
            int aim = looks(cell, year);
            int now = tone;
            for (int step = 0; step < his[0]; step++) {
                now += Integer.compare(aim, now);
            }
            return within(now + his[2 + cell % 3] - 3, 9);
        }

        int[] painted(int painter, int[] picture, int year) {
            int[] next = new int[12];
            for (int cell = 0; cell < 12; cell++) {
                next[cell] = brush(painter, cell, picture[cell], year);
            }
            return next;
        }

        /** Whether he rests in the year behind the rows of who painted (by years, 0: nobody). */
        boolean rests(int painter, List<Integer> who) {
            for (int i = 1; i <= terms[4]; i++) {
                int year = who.size() - i;
                if (year >= 1 && who.get(year) == painter) {
                    return true;
                }
            }
            return false;
        }

        int money(List<Integer> who, int year) {
            int money = 0;
            for (int y = 1; y <= year; y++) {
                money += terms[3] - asks(who.get(y), y);
            }
            return money;
        }

        void paint(int painter) throws Stop {
            if (painter < 0 || painter >= painters.size() || barred(painter, years() + 1) || rests(painter, by)) {
                throw new Stop(-3);
            }
            if (years() == 16) {
                throw new Stop(-5);
            }
            int[] next = painted(painter, seen(), years() + 1);
            layers.add(next);
            by.add(painter);
        }
    }

    /** The second program. */
    private static final class Oracle {
        Held now = new Held();
        final Held[] images = new Held[2];
        final List<Integer> tape = new ArrayList<>();
        private int fault = -1;
        private int stopped = -1;
        private int flakes;
        private int status;
        private final Map<Integer, Integer> refusals = new HashMap<>();
        private int[] drawn;
        private int[] drawnBy;
        // what plan found last is kept for the other whats of the same question
        private String planned = "";
        private List<int[]> bestRows;
        private int[] bestWorth;
        private int changes;

        private int no(int code) {
            status = code;
            refusals.merge(code, 1, Integer::sum);
            return code;
        }

        private int yes(int value) {
            status = 0;
            changes++;
            return value;
        }

        private static boolean in(int value, int low, int high) {
            return value >= low && value <= high;
        }

        private static boolean has(int i, List<?> list) {
            return i >= 0 && i < list.size();
        }

        private void unpaint() {
            int[] first = now.layers.get(0);
            now.layers.clear();
            now.layers.add(first);
            now.by.clear();
            now.by.add(-1);
        }

        int first(int cell, int tone) {
            if (!in(cell, 0, 11) || !in(tone, 0, 9)) {
                return no(-1);
            }
            unpaint();
            int had = now.seen()[cell];
            now.seen()[cell] = tone;
            return yes(had);
        }

        int painter(int reach, int price) {
            if (!in(reach, 1, 9) || !in(price, 0, 99)) {
                return no(-1);
            }
            if (now.painters.size() == 5) {
                return no(-5);
            }
            now.painters.add(new int[] {reach, price, 3, 3, 3});
            return yes(now.painters.size() - 1);
        }

        int err(int painter, int kind, int error) {
            if (!in(kind, 0, 2) || !in(error, 0, 6)) {
                return no(-1);
            }
            if (!has(painter, now.painters)) {
                return no(-2);
            }
            int had = now.painters.get(painter)[2 + kind];
            now.painters.get(painter)[2 + kind] = error;
            return yes(had);
        }

        int of(int painter, int what) {
            return has(painter, now.painters) && in(what, 0, 4) ? now.painters.get(painter)[what] : -1;
        }

        int terms(int what, int value) {
            if (!in(what, 0, 4) || !in(value, 0, new int[] {99, 5, 9, 999, 3}[what])) {
                return no(-1);
            }
            int had = now.terms[what];
            now.terms[what] = value;
            return yes(had);
        }

        int scar(int cell, int year, int tone) {
            if (!in(cell, 0, 11) || !in(year, 0, 99) || !in(tone, 0, 9)) {
                return no(-1);
            }
            if (now.scars.size() == 6) {
                return no(-5);
            }
            now.scars.add(new int[] {cell, year, tone});
            return yes(now.scars.size() - 1);
        }

        int heal(int scar) {
            if (!has(scar, now.scars)) {
                return no(-2);
            }
            now.scars.remove(scar);
            return yes(now.scars.size());
        }

        int feed(int... words) {
            if (tape.size() > 380) {
                return -1;
            }
            for (byte sign : java.nio.ByteBuffer.allocate(20).putInt(words[0]).putInt(words[1]).putInt(words[2])
                    .putInt(words[3]).putInt(words[4]).array()) {
                tape.add(sign & 255);
            }
            return tape.size();
        }

        int end(int n) {
            if (n < 0 || n > tape.size()) {
                return -1;
            }
            while (tape.size() > n) {
                tape.remove(tape.size() - 1);
            }
            return n;
        }

        int row() {
            if (tape.isEmpty()) {
                return no(-6);
            }
            unpaint();
            int told = 0;
            flakes = 0;
            for (int i = 0; i < tape.size(); i++) {
                if (i > 11 || tape.get(i) > 9) {
                    flakes++;
                } else {
                    now.seen()[i] = tape.get(i);
                    told++;
                }
            }
            tape.clear();
            return yes(told);
        }

        int flakes() {
            return flakes;
        }

        private List<Clause> read(boolean orders) {
            StringBuilder text = new StringBuilder();
            for (int sign : tape) {
                text.append((char) sign);
            }
            tape.clear();
            try {
                List<Clause> clauses = new Parser(text.toString(), orders).clauses();
                fault = -1;
                return clauses;
            } catch (Fault it) {
                fault = it.place;
                return null;
            }
        }

        int law() {
            if (now.laws.size() == 6) {
                tape.clear();
                return no(-5);
            }
            List<Clause> law = read(false);
            if (law == null) {
                return no(-6);
            }
            now.laws.add(law);
            return yes(now.laws.size() - 1);
        }

        int orders() {
            stopped = -1;
            List<Clause> orders = read(true);
            if (orders == null) {
                return no(-6);
            }
            Held before = now.twin();
            int done = 0;
            for (int i = 0; i < orders.size(); i++) {
                for (int time = 0; time < orders.get(i).times; time++) {
                    Map<String, Integer> words = words(done);
                    if (orders.get(i).wanted(words)) {
                        try {
                            run(orders.get(i), words);
                        } catch (Stop stop) {
                            now = before;
                            changes++;
                            stopped = i;
                            return no(stop.code);
                        }
                        done++;
                    }
                }
            }
            return yes(done);
        }

        private Map<String, Integer> words(int done) {
            Map<String, Integer> words = new HashMap<>();
            words.put("years", now.years());
            words.put("unlike", now.far(now.seen(), now.years()));
            words.put("money", now.money(now.by, now.years()));
            words.put("copies", now.copies.size());
            words.put("age", now.age(now.years()));
            words.put("done", done);
            for (int cell = 0; cell < 12; cell++) {
                words.put("tone" + cell, now.seen()[cell]);
            }
            return words;
        }

        private void run(Clause order, Map<String, Integer> words) throws Stop {
            long[] sums = new long[3];
            try {
                for (int i = 0; i < order.sums.size(); i++) {
                    sums[i] = order.sums.get(i).work(words);
                }
            } catch (Broken broken) {
                throw new Stop(-3);
            }
            changes++;
            switch (order.kind) {
                case "likest":
                    now.paint(plan(0, 1, 3));
                    break;
                case "cheapest":
                    now.paint(plan(1, 1, 3));
                    break;
                case "by":
                    now.paint((int) sums[0]);
                    break;
                case "scrape":
                    if (now.years() == 0) {
                        throw new Stop(-3);
                    }
                    scraped();
                    break;
                case "copy":
                    if (now.copies.size() == 6) {
                        throw new Stop(-5);
                    }
                    now.copies.add(now.seen().clone());
                    break;
                default:
                    if (!has((int) sums[0], now.copies) || !in((int) sums[1], 0, 11) || !in((int) sums[2], 0, 9)) {
                        throw new Stop(-3);
                    }
                    now.copies.get((int) sums[0])[(int) sums[1]] = (int) sums[2];
                    break;
            }
            changes++;
        }

        private int scraped() {
            now.layers.remove(now.years());
            return now.by.remove(now.by.size() - 1);
        }

        int fault() {
            return fault;
        }

        int stopped() {
            return stopped;
        }

        int force(int law) {
            if (law != -1 && !has(law, now.laws)) {
                return no(-2);
            }
            int had = now.force;
            now.force = law;
            return yes(had);
        }

        int looks(int cell, int year, int what) {
            if (!in(year, 0, 99)) {
                return -1;
            }
            if (cell == -1) {
                return now.age(year);
            }
            if (!in(cell, 0, 11) || !in(what, 0, 1)) {
                return -1;
            }
            return what == 0 ? now.looks(cell, year) : now.lets(cell, year);
        }

        int asks(int painter, int year, int what) {
            if (!has(painter, now.painters) || !in(year, 0, 99) || !in(what, 0, 1)) {
                return -1;
            }
            return what == 0 ? now.asks(painter, year) : now.barred(painter, year) ? 1 : 0;
        }

        int paint(int painter) {
            if (!has(painter, now.painters)) {
                return no(-2);
            }
            try {
                now.paint(painter);
            } catch (Stop stop) {
                return no(stop.code);
            }
            return yes(now.far(now.seen(), now.years()));
        }

        int scrape() {
            return now.years() == 0 ? no(-3) : yes(scraped());
        }

        int tone(int layer, int cell) {
            return has(layer, now.layers) && in(cell, 0, 11) ? now.layers.get(layer)[cell] : -1;
        }

        int layer(int layer, int what) {
            if (!has(layer, now.layers) || !in(what, 0, 3)) {
                return -1;
            }
            int by = now.by.get(layer);
            if (what == 0) {
                return now.far(now.layers.get(layer), layer);
            }
            return what == 1 ? by : what == 2 ? by < 0 ? 0 : now.asks(by, layer)
                    : now.firstFar(now.layers.get(layer), layer);
        }

        int unlawful() {
            for (int layer = 0; layer < now.layers.size(); layer++) {
                if (layer(layer, 3) >= 0) {
                    return layer;
                }
            }
            return -1;
        }

        int money(int layer) {
            return has(layer, now.layers) ? now.money(now.by, layer) : -1000000;
        }

        int broke() {
            for (int layer = 0; layer < now.layers.size(); layer++) {
                if (money(layer) < 0) {
                    return layer;
                }
            }
            return -1;
        }

        int plan(int by, int n, int what) {
            if (!in(by, 0, 2) || !in(n, 0, 5) || !in(what, 0, 2 + n)) {
                return -1;
            }
            String question = by + " " + n + " " + changes;
            if (!question.equals(planned)) {
                bestRows = new ArrayList<>();
                bestWorth = null;
                rows(by, n, new ArrayList<>(now.by), now.seen(), true);
                planned = question;
            }
            if (what == 2) {
                return bestRows.size();
            }
            if (bestRows.isEmpty()) {
                return -1;
            }
            return what == 0 ? bestWorth[0] : what == 1 ? bestWorth[1] : bestRows.get(0)[what - 3];
        }

        /** Goes on with each painter who may; judges a whole row only in its end. */
        private void rows(int by, int n, List<Integer> who, int[] picture, boolean good) {
            int year = who.size() - 1;
            if (n == 0) {
                int asked = 0;
                int[] row = new int[year - now.years()];
                boolean solvent = true;
                for (int i = 0; i < row.length; i++) {
                    row[i] = who.get(now.years() + 1 + i);
                    asked += now.asks(row[i], now.years() + 1 + i);
                    solvent &= now.money(who, now.years() + 1 + i) >= 0;
                }
                if (by == 1 && !good || by == 2 && !solvent) {
                    return;
                }
                int[] worth = {now.far(picture, year), asked};
                int order = bestWorth == null ? -1 : by == 1 ? order(worth, bestWorth, 1) : order(worth, bestWorth, 0);
                if (order < 0) {
                    bestRows.clear();
                    bestWorth = worth;
                }
                if (order <= 0) {
                    bestRows.add(row);
                }
                return;
            }
            for (int painter = 0; painter < now.painters.size(); painter++) {
                if (!now.barred(painter, year + 1) && !now.rests(painter, who)) {
                    int[] next = now.painted(painter, picture, year + 1);
                    who.add(painter);
                    rows(by, n - 1, who, next, good && (by != 1 || now.firstFar(next, year + 1) < 0));
                    who.remove(who.size() - 1);
                }
            }
        }

        private static int order(int[] one, int[] other, int by) {
            int order = Integer.compare(one[by], other[by]);
            return order != 0 ? order : Integer.compare(one[1 - by], other[1 - by]);
        }

        int drift(int cell, int n, int what) {
            if (!in(cell, 0, 11) || !in(n, 0, 10) || !in(what, 0, 2)) {
                return -1;
            }
            TreeSet<Integer> tones = new TreeSet<>();
            tones.add(now.seen()[cell]);
            for (int year = now.years() + 1; year <= now.years() + n; year++) {
                TreeSet<Integer> next = new TreeSet<>();
                for (int painter = 0; painter < now.painters.size(); painter++) {
                    if (!now.barred(painter, year)) {
                        for (int tone : tones) {
                            next.add(now.brush(painter, cell, tone, year));
                        }
                    }
                }
                tones = next;
            }
            if (what == 2) {
                int bits = 0;
                for (int tone : tones) {
                    bits += 1 << tone;
                }
                return bits;
            }
            return tones.isEmpty() ? -1 : what == 0 ? tones.first() : tones.last();
        }

        int undoing(int i) {
            List<Integer> pairs = new ArrayList<>();
            for (int one = 0; one < now.painters.size(); one++) {
                int[] next = now.painted(one, now.seen(), now.years() + 1);
                for (int other = 0; other < now.painters.size(); other++) {
                    int[] last = now.painted(other, next, now.years() + 2);
                    if (java.util.Arrays.equals(last, now.seen())) {
                        pairs.add(5 * one + other);
                    }
                }
            }
            return i == -1 ? pairs.size() : has(i, pairs) ? pairs.get(i) : -1;
        }

        int copy() {
            if (now.copies.size() == 6) {
                return no(-5);
            }
            now.copies.add(now.seen().clone());
            return yes(now.copies.size() - 1);
        }

        int touch(int copy, int cell, int tone) {
            if (!in(cell, 0, 11) || !in(tone, 0, 9)) {
                return no(-1);
            }
            if (!has(copy, now.copies)) {
                return no(-2);
            }
            int had = now.copies.get(copy)[cell];
            now.copies.get(copy)[cell] = tone;
            return yes(had);
        }

        int burn() {
            int had = now.copies.size();
            now.copies.clear();
            return had;
        }

        int near(int copy) {
            if (copy != -1) {
                return has(copy, now.copies) ? Held.unlike(now.copies.get(copy), now.seen()) : -1;
            }
            int bits = 0;
            for (int one = 0; one < now.copies.size(); one++) {
                boolean least = true;
                for (int other = 0; other < now.copies.size(); other++) {
                    least &= near(one) <= near(other);
                }
                bits |= least ? 1 << one : 0;
            }
            return bits;
        }

        int like(int one, int other) {
            if (one != -1 && !has(one, now.copies) || other != -1 && !has(other, now.copies)) {
                return -1;
            }
            return Held.unlike(picture(one), picture(other));
        }

        private int[] picture(int copy) {
            return copy == -1 ? now.layers.get(0) : now.copies.get(copy);
        }

        private List<int[]> bestTrees = new ArrayList<>();
        private int bestChanged;
        private String treeOf = "";

        private void seekTrees() {
            StringBuilder key = new StringBuilder();
            for (int copy = -1; copy < now.copies.size(); copy++) {
                key.append(java.util.Arrays.toString(picture(copy)));
            }
            if (key.toString().equals(treeOf)) {
                return;
            }
            treeOf = key.toString();
            bestTrees = new ArrayList<>();
            bestChanged = Integer.MAX_VALUE;
            int n = now.copies.size();
            int all = 1;
            for (int i = 0; i < n; i++) {
                all *= n + 1;
            }
            for (int code = 0; code < all; code++) {
                int[] parents = new int[n];
                int left = code;
                for (int i = n - 1; i >= 0; i--) {
                    parents[i] = left % (n + 1) - 1;
                    left /= n + 1;
                }
                int changed = 0;
                boolean rooted = true;
                for (int i = 0; i < n && rooted; i++) {
                    int at = i;
                    for (int step = 0; step <= n && at >= 0; step++) {
                        at = parents[at];
                    }
                    rooted = at == -1;
                    changed += like(i, parents[i]);
                }
                if (rooted && changed <= bestChanged) {
                    if (changed < bestChanged) {
                        bestTrees.clear();
                    }
                    bestChanged = changed;
                    bestTrees.add(parents);
                }
            }
        }

        int tree(int what) {
            if (!in(what, 0, now.copies.size())) {
                return -1;
            }
            seekTrees();
            if (what == 0) {
                return bestChanged;
            }
            int parent = bestTrees.get(0)[what - 1];
            return parent == -1 ? 100 : parent;
        }

        int trees() {
            seekTrees();
            return bestTrees.size();
        }

        int dated(int copy, int what) {
            if (!has(copy, now.copies) || !in(what, 0, 3)) {
                return -1;
            }
            int fewest = 99;
            List<Integer> layers = new ArrayList<>();
            for (int[] layer : now.layers) {
                fewest = Math.min(fewest, Held.unlike(layer, now.copies.get(copy)));
            }
            for (int i = 0; i < now.layers.size(); i++) {
                if (Held.unlike(now.layers.get(i), now.copies.get(copy)) == fewest) {
                    layers.add(i);
                }
            }
            return new int[] {fewest, layers.get(0), layers.get(layers.size() - 1), layers.size()}[what];
        }

        int know(int what) {
            if (!in(what, 0, 1) || now.copies.isEmpty()) {
                return -1;
            }
            int[] found = laidBare(now.copies, new HashMap<>());
            return found[what];
        }

        /** How many cells at worst and the first of them. */
        private static int[] laidBare(List<int[]> left, Map<List<Integer>, int[]> known) {
            List<Integer> key = new ArrayList<>();
            for (int[] one : left) {
                key.add(System.identityHashCode(one));
            }
            if (known.containsKey(key)) {
                return known.get(key);
            }
            int[] best = null;
            for (int cell = 0; cell < 12; cell++) {
                Map<Integer, List<int[]>> groups = new HashMap<>();
                for (int[] one : left) {
                    groups.computeIfAbsent(one[cell], k -> new ArrayList<>()).add(one);
                }
                if (groups.size() > 1) {
                    int worst = 0;
                    for (List<int[]> group : groups.values()) {
                        worst = Math.max(worst, laidBare(group, known)[0]);
                    }
                    if (best == null || worst + 1 < best[0]) {
                        best = new int[] {worst + 1, cell};
                    }
                }
            }
            best = best == null ? new int[] {0, -1} : best;
            known.put(key, best);
            return best;
        }

        int who(int layer) {
            if (layer < 1 || !has(layer, now.layers)) {
                return -1;
            }
            int bits = 0;
            for (int painter = 0; painter < now.painters.size(); painter++) {
                int[] next = now.painted(painter, now.layers.get(layer - 1), layer);
                bits |= java.util.Arrays.equals(next, now.layers.get(layer)) ? 1 << painter : 0;
            }
            return bits;
        }

        int forge(int layer, int cell, int tone) {
            if (!in(cell, 0, 11) || !in(tone, 0, 9)) {
                return no(-1);
            }
            if (layer < 1 || !has(layer, now.layers)) {
                return no(-2);
            }
            int had = now.layers.get(layer)[cell];
            now.layers.get(layer)[cell] = tone;
            return yes(had);
        }

        int skipped() {
            for (int layer = 1; layer < now.layers.size(); layer++) {
                if (who(layer) == 0) {
                    return layer;
                }
            }
            return -1;
        }

        int missing(int layer, int years) {
            if (layer < 1 || !has(layer, now.layers) || !in(years, 1, 2)) {
                return -1;
            }
            return into(now.layers.get(layer - 1), layer, years + 1);
        }

        private int into(int[] picture, int layer, int left) {
            if (left == 0) {
                return java.util.Arrays.equals(picture, now.layers.get(layer)) ? 1 : 0;
            }
            int rows = 0;
            for (int painter = 0; painter < now.painters.size(); painter++) {
                rows += into(now.painted(painter, picture, layer), layer, left - 1);
            }
            return rows;
        }

        int was(int cell) {
            if (!in(cell, 0, 11)) {
                return -1;
            }
            int bits = 0;
            for (int first = 0; first < 10; first++) {
                int tone = first;
                for (int year = 1; year <= now.years(); year++) {
                    tone = now.brush(now.by.get(year), cell, tone, year);
                }
                bits |= tone == now.seen()[cell] ? 1 << first : 0;
            }
            return bits;
        }

        long ways() {
            long ways = 1;
            for (int cell = 0; cell < 12; cell++) {
                ways *= Integer.bitCount(was(cell));
            }
            return ways;
        }

        int claimant(int parent, int born, int dead, int copy) {
            if (parent < -1 || !in(born, 0, 99) || !in(dead, born + 1, 150) || !in(copy, -1, 5)) {
                return no(-1);
            }
            if (parent >= now.claimants.size()) {
                return no(-2);
            }
            if (now.claimants.size() == 8) {
                return no(-5);
            }
            now.claimants.add(new int[] {parent, born, dead, copy});
            return yes(now.claimants.size() - 1);
        }

        int claim(int claimant, int what, int value) {
            if (!in(what, 0, 1) || !in(value, what == 0 ? 0 : -1, what == 0 ? 150 : 5)) {
                return no(-1);
            }
            if (!has(claimant, now.claimants)) {
                return no(-2);
            }
            int[] his = now.claimants.get(claimant);
            if (what == 0 && value <= his[1]) {
                return no(-1);
            }
            int had = his[2 + what];
            his[2 + what] = value;
            return yes(had);
        }

        int born(int claimant, int what) {
            return has(claimant, now.claimants) && in(what, 0, 3) ? now.claimants.get(claimant)[what] : -1;
        }

        int stands(int claimant, int year, int what) {
            if (!has(claimant, now.claimants) || !in(year, 0, 99) || !in(what, 0, 3)) {
                return -1;
            }
            switch (what) {
                case 0: return now.alive(claimant, year) ? 1 : 0;
                case 1: return now.ranks(claimant, year);
                case 2: return now.out(claimant, year) ? 1 : 0;
                default: return now.children(claimant, year);
            }
        }

        private List<Integer> queue(int year) {
            List<Integer> queue = new ArrayList<>();
            for (int i = 0; i < now.claimants.size(); i++) {
                if (now.alive(i, year) && !now.out(i, year)) {
                    queue.add(i);
                }
            }
            queue.sort((a, b) -> Integer.compare(now.ranks(a, year) * 10 + a, now.ranks(b, year) * 10 + b));
            return queue;
        }

        private int[] rulers() {
            int[] rulers = new int[100];
            for (int year = 0; year < 100; year++) {
                int last = year == 0 ? -1 : rulers[year - 1];
                if (last != -1 && now.alive(last, year)) {
                    rulers[year] = last;
                } else {
                    List<Integer> queue = queue(year);
                    rulers[year] = queue.isEmpty() ? -1 : queue.get(0);
                }
            }
            return rulers;
        }

        int ruler(int year) {
            return in(year, 0, 99) ? rulers()[year] : -1;
        }

        int reign(int i, int what) {
            int[] rulers = rulers();
            List<int[]> reigns = new ArrayList<>();
            for (int year = 0; year < 100; year++) {
                int last = year == 0 ? -1 : rulers[year - 1];
                if (rulers[year] != -1) {
                    if (rulers[year] != last) {
                        reigns.add(new int[] {rulers[year], year, 0});
                    }
                    reigns.get(reigns.size() - 1)[2]++;
                }
            }
            if (i == -1) {
                return reigns.size();
            }
            return has(i, reigns) && in(what, 0, 2) ? reigns.get(i)[what] : -1;
        }

        int vacant() {
            int n = 0;
            for (int ruler : rulers()) {
                n += ruler == -1 ? 1 : 0;
            }
            return n;
        }

        int line(int year, int i) {
            if (!in(year, 0, 99)) {
                return -1;
            }
            List<Integer> queue = queue(year);
            return i == -1 ? queue.size() : has(i, queue) ? queue.get(i) : -1;
        }

        int century(int seed, int n) {
            if (!in(seed, 0, 1000000) || !in(n, 0, 40) || now.years() + n > 99) {
                return no(-1);
            }
            long[] s = {seed};
            int[] picture = now.seen().clone();
            drawnBy = new int[now.painters.size()];
            for (int year = now.years() + 1; year <= now.years() + n; year++) {
                if (now.painters.isEmpty()) {
                    continue;
                }
                int painter = draw(s, now.painters.size());
                drawnBy[painter]++;
                picture = now.painted(painter, picture, year);
                for (int cell = 0; cell < 12; cell++) {
                    int draw = draw(s, 8);
                    if (draw == 0 && picture[cell] > 0) {
                        picture[cell]--;
                    } else if (draw == 1 && picture[cell] < 9) {
                        picture[cell]++;
                    }
                }
            }
            drawn = picture;
            return yes(now.far(picture, now.years() + n));
        }

        private static int draw(long[] s, int m) {
            s[0] = (s[0] * 1103 + 12345) % 1000003;
            return (int) (s[0] % m);
        }

        int drawn(int cell) {
            if (drawn == null) {
                return -1;
            }
            return in(cell, 0, 11) ? drawn[cell] : in(cell, 100, 99 + drawnBy.length) ? drawnBy[cell - 100] : -1;
        }

        int image(int k) {
            if (!in(k, 0, 1)) {
                return no(-1);
            }
            images[k] = now.twin();
            return yes(0);
        }

        int back(int k) {
            if (!in(k, 0, 1)) {
                return no(-1);
            }
            if (images[k] == null) {
                return no(-2);
            }
            now = images[k].twin();
            return yes(0);
        }

        int count(int what) {
            switch (what) {
                case 0: return now.painters.size();
                case 1: return now.laws.size();
                case 2: return now.scars.size();
                case 3: return now.years();
                case 4: return now.copies.size();
                case 5: return now.claimants.size();
                case 6: return tape.size();
                case 7: case 8: case 9: return refusals.getOrDefault(6 - what, 0);
                case 10: case 11: return refusals.getOrDefault(5 - what, 0);
                case 12: return now.force;
                default: return in(what, 13, 17) ? now.terms[what - 13] : -1;
            }
        }

        int status() {
            return status;
        }
    }
}
