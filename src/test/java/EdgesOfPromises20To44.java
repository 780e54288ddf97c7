/** Promises 20 to 44, sentence by sentence: painting, rows, copies, layers looked through. */
public final class EdgesOfPromises20To44 {
    public static void main(String[] args) {
        painting();
        layers();
        money();
        plan();
        drift();
        undoing();
        copies();
        likeness();
        trees();
        dated();
        known();
        who();
        forge();
        missing();
        first();
        Edges.close();
    }

    private static void painting() {
        Edges.sentence("Promise 20, paint", "The next YEAR is painted: UNLIKE then", """
                painter(1, 0)
                paint(0) -> 12
                count(3) -> 1
                paint(0) -> 0
                tone(2, 11) -> 2
                rules looks 9; looks 0 if year=3
                paint(0) -> 12
                scrape() -> 0
                rules looks 0; looks 9 if year=3
                paint(0) -> 72
                """);
        Edges.sentence("Promise 20, paint", "-2; -3 he is BARRED, RESTS; -5", """
                paint(0) -> refused -2
                paint(-1) -> refused -2
                painter(1, 0)
                painter(1, 0)
                rules bars if painter=0 and year=1; bars if painter=1 and year=2
                paint(0) -> refused -3
                paint(2) -> refused -2
                paint(1)
                paint(1) -> refused -3
                paint(0)
                paint(1)
                terms(4, 1)
                paint(1) -> refused -3
                paint(0)
                terms(4, 2)
                paint(0) -> refused -3
                paint(1) -> refused -3
                terms(4, 0)
                12 times paint(0)
                paint(0) -> refused -5
                paint(2) -> refused -2
                terms(4, 1)
                paint(0) -> refused -3
                paint(1) -> refused -5
                rules bars if year=17
                paint(1) -> refused -3
                rules bars if year=16
                paint(1) -> refused -5
                count(3) -> 16
                """);
        Edges.sentence("Promise 21, scrape", "The last YEAR is scraped off: the PAINTER. -3 there is none", """
                scrape() -> refused -3
                3 times painter(1, 0)
                paint(2)
                paint(0)
                paint(1)
                scrape() -> 1
                count(3) -> 2
                tone(3, 0) -> NONE
                scrape() -> 0
                scrape() -> 2
                scrape() -> refused -3
                count(3) -> 0
                tone(0, 0) -> 0
                """);
    }

    private static void layers() {
        Edges.sentence("Promise 22, tone", "The TONE of a CELL in a LAYER. NONE", """
                tone(0, 0) -> 0
                tone(0, 11) -> 0
                tone(1, 0) -> NONE
                first(11, 9)
                painter(1, 0)
                16 times paint(0)
                tone(0, 11) -> 9
                tone(1, 11) -> 8
                tone(16, 0) -> 3
                tone(16, 11) -> 3
                tone(17, 0) -> NONE
                tone(-1, 0) -> NONE
                tone(MIN, 0) -> NONE
                tone(MAX, 0) -> NONE
                tone(0, -1) -> NONE
                tone(0, 12) -> NONE
                tone(16, 12) -> NONE
                tone(1, -1) -> NONE
                tone(0, MIN) -> NONE
                tone(0, MAX) -> NONE
                scrape()
                tone(16, 0) -> NONE
                tone(15, 0) -> 3
                """);
        Edges.sentence("Promise 23, layer", "Of a LAYER UNLIKE (what 0), who painted it (1; NONE: LAYER 0), what he ASKS in that YEAR (2; 0: LAYER 0), the first CELL that is farther than it LETS (3; NONE: none). NONE",
                "painter(1, 10)\npainter(1, 20)", """
                rules looks 3; lets 1; asks price+year; lets 9 if year=2
                paint(0)
                paint(1)
                layer(0, 0) -> 36
                layer(1, 0) -> 24
                layer(2, 0) -> 12
                layer(0, 1) -> NONE
                layer(1, 1) -> 0
                layer(2, 1) -> 1
                layer(0, 2) -> 0
                layer(1, 2) -> 11
                layer(2, 2) -> 22
                layer(0, 3) -> 0
                layer(1, 3) -> 0
                layer(2, 3) -> NONE
                forge(1, 0, 3)
                forge(1, 1, 2)
                layer(1, 3) -> 2
                layer(3, 0) -> NONE
                layer(-1, 0) -> NONE
                layer(MIN, 0) -> NONE
                layer(MAX, 0) -> NONE
                layer(0, 4) -> NONE
                layer(0, -1) -> NONE
                layer(2, 4) -> NONE
                layer(2, MIN) -> NONE
                layer(2, MAX) -> NONE
                """);
        Edges.sentence("Promise 24, unlawful", "The first LAYER that is UNLAWFUL. NONE", """
                unlawful() -> NONE
                painter(1, 0)
                rules looks 2; lets 2
                paint(0)
                paint(0)
                unlawful() -> NONE
                forge(2, 11, 5)
                unlawful() -> 2
                forge(2, 11, 4)
                unlawful() -> NONE
                forge(2, 0, 9)
                forge(1, 0, 9)
                unlawful() -> 1
                rules looks 2; lets 2; lets 1 if year=0
                unlawful() -> 0
                force(NONE)
                unlawful() -> NONE
                """);
    }

    private static void money() {
        Edges.sentence("Promise 25, money", "MONEY behind a LAYER. NOTHING", """
                money(0) -> 0
                money(1) -> NOTHING
                money(-1) -> NOTHING
                money(MIN) -> NOTHING
                money(MAX) -> NOTHING
                painter(1, 99)
                16 times paint(0)
                money(0) -> 0
                money(1) -> 1
                money(16) -> 16
                money(17) -> NOTHING
                rules asks 999
                money(16) -> -14384
                terms(3, 999)
                money(16) -> 0
                scrape()
                money(16) -> NOTHING
                """);
        Edges.sentence("Promise 26, broke", "The first LAYER behind which MONEY is below 0. NONE", """
                broke() -> NONE
                painter(1, 50)
                3 times paint(0)
                terms(3, 50)
                money(3) -> 0
                broke() -> NONE
                terms(3, 49)
                broke() -> 1
                terms(3, 50)
                rules asks 51 if year=3
                money(3) -> -1
                broke() -> 3
                rules asks 51 if year=2; asks 9 if year=3
                broke() -> 2
                rules asks 0 if year=1
                broke() -> NONE
                """);
    }

    private static void plan() {
        String two = "painter(1, 10)\npainter(2, 20)\nrules looks 5\n";
        Edges.sentence("Promise 27, plan", "LIKEST (by 0), CHEAPEST (1), SOLVENT (2) for n YEARS", two, """
                plan(-1, 1, 0) -> NONE
                plan(3, 1, 0) -> NONE
                plan(MIN, 1, 0) -> NONE
                plan(MAX, 1, 0) -> NONE
                terms(3, 15)
                plan(0, 1, 3) -> 1
                plan(1, 1, 3) -> 0
                plan(2, 1, 3) -> 0
                terms(3, 20)
                plan(2, 1, 3) -> 1
                plan(0, -1, 0) -> NONE
                plan(0, 6, 0) -> NONE
                plan(0, MIN, 0) -> NONE
                plan(0, MAX, 0) -> NONE
                """);
        Edges.sentence("Promise 27, plan", "UNLIKE (what 0), what they ASK (1), how many rows are as good in both (2; 0: none), the PAINTER of the i-th YEAR (3 + i). NONE",
                two, """
                plan(0, 0, 0) -> 60
                plan(0, 0, 1) -> 0
                plan(0, 0, 2) -> 1
                plan(0, 0, 3) -> NONE
                plan(0, 0, -1) -> NONE
                plan(0, 1, 0) -> 36
                plan(0, 1, 1) -> 20
                plan(0, 1, 2) -> 1
                plan(0, 1, 3) -> 1
                plan(0, 1, 4) -> NONE
                plan(0, 1, -1) -> NONE
                plan(0, 1, MIN) -> NONE
                plan(0, 1, MAX) -> NONE
                plan(0, 4, 0) -> 0
                plan(0, 4, 1) -> 50
                plan(0, 4, 2) -> 4
                plan(0, 4, 3) -> 0
                plan(0, 4, 4) -> 0
                plan(0, 4, 5) -> 0
                plan(0, 4, 6) -> 1
                plan(0, 4, 7) -> NONE
                plan(0, 5, 0) -> 0
                plan(0, 5, 2) -> 1
                plan(0, 5, 3) -> 0
                plan(0, 5, 7) -> 0
                plan(0, 5, 8) -> NONE
                """);
        Edges.sentence("Promise 27, plan", "(2; 0: none) .. NONE: nobody may", """
                plan(0, 0, 2) -> 1
                plan(0, 1, 2) -> 0
                plan(0, 1, 0) -> NONE
                plan(0, 1, 1) -> NONE
                plan(0, 1, 3) -> NONE
                plan(1, 5, 2) -> 0
                plan(2, 5, 2) -> 0
                plan(2, 5, 7) -> NONE
                painter(1, 0)
                rules bars
                plan(0, 1, 2) -> 0
                plan(0, 0, 2) -> 1
                plan(1, 1, 2) -> 0
                plan(2, 1, 2) -> 0
                plan(2, 1, 1) -> NONE
                """);
        Edges.sentence("Promise 27, plan", "the most rows there can be", Edges.each(0, 4, "painter(3, 7)"), """
                plan(0, 5, 0) -> 0
                plan(0, 5, 1) -> 35
                plan(0, 5, 2) -> 3125
                plan(1, 5, 2) -> 3125
                plan(2, 5, 2) -> 3125
                plan(2, 5, 3) -> 0
                plan(2, 5, 7) -> 0
                terms(4, 3)
                plan(0, 5, 2) -> 240
                plan(0, 5, 3) -> 0
                plan(0, 5, 6) -> 3
                plan(0, 5, 7) -> 0
                """);
    }

    private static void drift() {
        Edges.sentence("Promise 28, drift", "the lowest TONE (what 0), the highest (1), all it can have, as bits (2)",
                "painter(1, 0)\npainter(3, 0)\nrules looks 9\nfirst(11, 6)", """
                drift(0, 0, 0) -> 0
                drift(0, 0, 1) -> 0
                drift(0, 0, 2) -> 1
                drift(0, 1, 0) -> 1
                drift(0, 1, 1) -> 3
                drift(0, 1, 2) -> 10
                drift(0, 10, 0) -> 9
                drift(0, 10, 2) -> 512
                drift(11, 1, 2) -> 640
                drift(11, 1, 0) -> 7
                drift(11, 1, 1) -> 9
                drift(0, -1, 0) -> NONE
                drift(0, 11, 0) -> NONE
                drift(0, -1, 2) -> NONE
                drift(0, 11, 2) -> NONE
                drift(-1, 0, 0) -> NONE
                drift(12, 0, 0) -> NONE
                drift(MIN, 0, 0) -> NONE
                drift(MAX, 0, 0) -> NONE
                drift(0, MIN, 2) -> NONE
                drift(0, MAX, 2) -> NONE
                drift(0, 0, 3) -> NONE
                drift(0, 0, -1) -> NONE
                drift(0, 0, MIN) -> NONE
                drift(0, 0, MAX) -> NONE
                """);
        Edges.sentence("Promise 28, drift", "NONE (nobody can paint some YEAR, for 0, 1; 0 for 2)", """
                drift(0, 0, 2) -> 1
                drift(0, 1, 0) -> NONE
                drift(0, 1, 1) -> NONE
                drift(0, 1, 2) -> 0
                painter(1, 0)
                rules bars if year=5
                drift(0, 4, 2) -> 4
                drift(0, 4, 0) -> 2
                drift(0, 5, 2) -> 0
                drift(0, 5, 0) -> NONE
                drift(0, 5, 1) -> NONE
                drift(0, 10, 2) -> 0
                drift(0, 10, 1) -> NONE
                drift(0, 11, 2) -> NONE
                """);
    }

    private static void undoing() {
        Edges.sentence("Promise 29, undoing", "how many pairs (i NONE), the i-th: five times the first and the other one. NONE", """
                undoing(NONE) -> 0
                undoing(0) -> NONE
                undoing(-2) -> NONE
                row 2 2 2 2 2 2 2 2 2 2 2 2
                painter(1, 0)
                undoing(NONE) -> 1
                undoing(0) -> 0
                undoing(1) -> NONE
                4 times painter(1, 0)
                undoing(NONE) -> 25
                undoing(0) -> 0
                undoing(4) -> 4
                undoing(5) -> 5
                undoing(24) -> 24
                undoing(25) -> NONE
                undoing(-2) -> NONE
                undoing(MIN) -> NONE
                undoing(MAX) -> NONE
                err(0, 1, 4)
                undoing(NONE) -> 20
                undoing(0) -> 1
                undoing(4) -> 6
                undoing(19) -> 24
                undoing(20) -> NONE
                """);
    }

    private static void copies() {
        Edges.sentence("Promise 30, copy", "What is SEEN becomes a COPY: its number. -5", """
                first(0, 7)
                copy() -> 0
                painter(1, 0)
                paint(0)
                copy() -> 1
                touch(0, 0, 7) -> 7
                touch(1, 0, 6) -> 6
                touch(1, 11, 1) -> 1
                4 times copy()
                count(4) -> 6
                copy() -> refused -5
                count(4) -> 6
                """);
        Edges.sentence("Promise 31, touch", "A CELL of a COPY gets a TONE: what it had. -1; -2", """
                touch(0, 0, 0) -> refused -2
                touch(0, 12, 0) -> refused -1
                touch(0, 0, 10) -> refused -1
                copy()
                copy()
                touch(1, 0, 9) -> 0
                touch(1, 0, 0) -> 9
                touch(1, 11, 3) -> 0
                touch(0, 11, 4) -> 0
                touch(1, 11, 3) -> 3
                touch(1, 12, 0) -> refused -1
                touch(1, -1, 0) -> refused -1
                touch(1, MIN, 0) -> refused -1
                touch(1, MAX, 0) -> refused -1
                touch(1, 0, 10) -> refused -1
                touch(1, 0, -1) -> refused -1
                touch(1, 0, MIN) -> refused -1
                touch(1, 0, MAX) -> refused -1
                touch(2, 0, 0) -> refused -2
                touch(-1, 0, 0) -> refused -2
                touch(2, 0, 10) -> refused -1
                touch(-1, 12, 0) -> refused -1
                tone(0, 11) -> 0
                """);
        Edges.sentence("Promise 32, burn", "COPIES are burnt: how many there were", """
                burn() -> 0
                copy()
                burn() -> 1
                burn() -> 0
                6 times copy()
                burn() -> 6
                count(4) -> 0
                near(0) -> NONE
                touch(0, 0, 0) -> refused -2
                first(3, 4)
                copy() -> 0
                touch(0, 3, 0) -> 4
                tone(0, 3) -> 4
                """);
    }

    private static void likeness() {
        Edges.sentence("Promise 33, near", "NEAR of a COPY (copy NONE: HEIRS, as bits). NONE (no such COPY)", """
                near(NONE) -> 0
                near(0) -> NONE
                copy()
                copy()
                touch(0, 4, 1)
                near(0) -> 1
                near(1) -> 0
                near(2) -> NONE
                near(-2) -> NONE
                near(MIN) -> NONE
                near(MAX) -> NONE
                near(NONE) -> 2
                touch(1, 0, 1)
                near(NONE) -> 3
                """);
        Edges.sentence("Promise 34, like", "In how many CELLS two COPIES (NONE: LAYER 0) are unlike. NONE",
                "like(NONE, NONE) -> 0\nlike(0, NONE) -> NONE\nlike(NONE, 0) -> NONE\npainter(2, 0)\npaint(0)\ncopy()\ncopy()", """
                like(0, NONE) -> 12
                like(NONE, 1) -> 12
                like(0, 1) -> 0
                like(1, 1) -> 0
                touch(1, 0, 9)
                touch(1, 11, 0)
                like(0, 1) -> 2
                like(1, 0) -> 2
                like(1, NONE) -> 11
                like(NONE, NONE) -> 0
                like(2, 0) -> NONE
                like(0, 2) -> NONE
                like(2, NONE) -> NONE
                like(-2, 0) -> NONE
                like(0, -2) -> NONE
                like(MIN, 0) -> NONE
                like(0, MAX) -> NONE
                """);
    }

    private static void trees() {
        Edges.sentence("Promise 35, tree", "CELLS changed (what 0), the parent of COPY i (1 + i: a COPY; 100: LAYER 0). NONE", """
                tree(0) -> 0
                tree(1) -> NONE
                tree(-1) -> NONE
                copy()
                touch(0, 0, 1)
                tree(0) -> 1
                tree(1) -> 100
                tree(2) -> NONE
                copy()
                touch(1, 0, 1)
                touch(1, 1, 1)
                touch(1, 2, 1)
                tree(0) -> 3
                tree(1) -> 100
                tree(2) -> 0
                tree(3) -> NONE
                3 times copy()
                copy()
                """,
                Edges.each(0, 11, "touch(5, #, 1)"), """
                tree(0) -> 12
                tree(3) -> 100
                tree(6) -> 1
                tree(7) -> NONE
                tree(-1) -> NONE
                tree(MIN) -> NONE
                tree(MAX) -> NONE
                tree(100) -> NONE
                """);
        Edges.sentence("Promise 36, trees", "In how many ways the TREE can be", """
                trees() -> 1
                copy()
                trees() -> 1
                copy()
                trees() -> 3
                copy()
                trees() -> 16
                touch(0, 0, 1)
                trees() -> 9
                tree(0) -> 1
                burn()
                trees() -> 1
                """);
    }

    private static void dated() {
        Edges.sentence("Promise 37, dated", "in how many CELLS it is unlike (what 0), the first LAYER (1), the last (2), how many LAYERS (3). NONE",
                "dated(0, 0) -> NONE\ncopy()", """
                dated(0, 0) -> 0
                dated(0, 1) -> 0
                dated(0, 2) -> 0
                dated(0, 3) -> 1
                painter(9, 0)
                rules looks 0; looks 5 if year=1
                16 times paint(0)
                dated(0, 0) -> 0
                dated(0, 1) -> 0
                dated(0, 2) -> 16
                dated(0, 3) -> 16
                touch(0, 3, 5)
                dated(0, 0) -> 1
                dated(0, 3) -> 16
                dated(0, 4) -> NONE
                dated(0, -1) -> NONE
                dated(0, MIN) -> NONE
                dated(0, MAX) -> NONE
                dated(1, 0) -> NONE
                dated(-1, 0) -> NONE
                dated(MIN, 0) -> NONE
                dated(MAX, 0) -> NONE
                """,
                Edges.each(0, 11, "touch(0, #, 9)"),
                "dated(0, 0) -> 12\ndated(0, 1) -> 0\ndated(0, 2) -> 16\ndated(0, 3) -> 17");
    }

    private static void known() {
        Edges.sentence("Promise 38, know", "how many CELLS at worst (what 0), the first (1). NONE (0 CELLS, for 1; without COPIES)", """
                know(0) -> NONE
                know(1) -> NONE
                copy()
                know(0) -> 0
                know(1) -> NONE
                copy()
                know(0) -> 0
                know(1) -> NONE
                touch(1, 0, 1)
                know(0) -> 1
                know(1) -> 0
                know(2) -> NONE
                know(-1) -> NONE
                know(MIN) -> NONE
                know(MAX) -> NONE
                burn()
                know(0) -> NONE
                know(1) -> NONE
                """);
    }

    private static void who() {
        Edges.sentence("Promise 39, who", "WHO can have painted a LAYER, as bits. NONE (LAYER 0, too)", """
                who(0) -> NONE
                who(1) -> NONE
                painter(1, 0)
                painter(2, 0)
                painter(1, 0)
                paint(0)
                who(0) -> NONE
                who(1) -> 5
                who(2) -> NONE
                who(-1) -> NONE
                who(MIN) -> NONE
                who(MAX) -> NONE
                forge(1, 0, 2)
                who(1) -> 0
                paint(1)
                who(2) -> 7
                """);
    }

    private static void forge() {
        Edges.sentence("Promise 40, forge", "A CELL of a LAYER 1 .. gets another TONE (who painted it, LAYERS behind it stay as they are): what it had", """
                painter(1, 0)
                painter(1, 0)
                paint(1)
                paint(0)
                paint(0)
                forge(1, 0, 9) -> 1
                forge(1, 0, 0) -> 9
                forge(1, 11, 7) -> 1
                tone(1, 0) -> 0
                tone(1, 11) -> 7
                tone(0, 11) -> 0
                tone(2, 0) -> 2
                tone(2, 11) -> 2
                tone(3, 11) -> 2
                layer(1, 1) -> 1
                layer(2, 1) -> 0
                count(3) -> 3
                forge(3, 11, 9) -> 2
                paint(1)
                tone(4, 11) -> 8
                """);
        Edges.sentence("Promise 40, forge", "-1; -2", """
                forge(1, 0, 0) -> refused -2
                forge(1, 12, 0) -> refused -1
                forge(1, 0, 10) -> refused -1
                painter(1, 0)
                paint(0)
                forge(0, 0, 0) -> refused -2
                forge(2, 0, 0) -> refused -2
                forge(-1, 0, 0) -> refused -2
                forge(1, 12, 0) -> refused -1
                forge(1, -1, 0) -> refused -1
                forge(1, 0, 10) -> refused -1
                forge(1, 0, -1) -> refused -1
                forge(0, 12, 0) -> refused -1
                forge(2, 0, 10) -> refused -1
                forge(1, MIN, 0) -> refused -1
                forge(1, 0, MAX) -> refused -1
                forge(1, 0, 1) -> 1
                scrape()
                forge(1, 0, 1) -> refused -2
                """);
        Edges.sentence("Promise 41, skipped", "SKIPPED. NONE", """
                skipped() -> NONE
                painter(1, 0)
                skipped() -> NONE
                paint(0)
                paint(0)
                skipped() -> NONE
                forge(2, 11, 9)
                skipped() -> 2
                forge(1, 0, 9)
                skipped() -> 1
                first(0, 0)
                skipped() -> NONE
                """);
    }

    private static void missing() {
        Edges.sentence("Promise 42, missing", "in how many rows of two PAINTERS (years 1: one YEAR is MISSING), of three (2) a LAYER comes out so. NONE",
                "missing(0, 1) -> NONE\nmissing(1, 1) -> NONE", """
                5 times painter(1, 0)
                rules looks 2
                paint(0)
                missing(1, 1) -> 0
                missing(1, 2) -> 0
                paint(0)
                missing(2, 1) -> 25
                missing(2, 2) -> 125
                missing(2, 0) -> NONE
                missing(2, 3) -> NONE
                missing(2, -1) -> NONE
                missing(2, MIN) -> NONE
                missing(2, MAX) -> NONE
                missing(0, 1) -> NONE
                missing(0, 2) -> NONE
                missing(3, 1) -> NONE
                missing(-1, 1) -> NONE
                missing(MIN, 1) -> NONE
                missing(MAX, 2) -> NONE
                rules looks 2; bars
                terms(4, 3)
                missing(2, 1) -> 25
                """);
    }

    private static void first() {
        Edges.sentence("Promise 43, was", "FIRST: TONES of a CELL, as bits (0: none). NONE", """
                was(0) -> 1
                was(11) -> 1
                was(-1) -> NONE
                was(12) -> NONE
                was(MIN) -> NONE
                was(MAX) -> NONE
                painter(9, 0)
                paint(0)
                was(0) -> 1023
                was(11) -> 1023
                forge(1, 11, 3)
                was(11) -> 0
                was(10) -> 1023
                scrape()
                was(11) -> 1
                """);
        Edges.sentence("Promise 44, ways", "FIRST: in how many ways all CELLS together can", """
                ways() -> 1
                painter(9, 0)
                rules looks 5; looks cell if year=2
                paint(0)
                ways() -> 1000000000000
                forge(1, 0, 4)
                ways() -> 0
                forge(1, 0, 5)
                painter(1, 0)
                paint(1)
                ways() -> 1000000000000
                scrape()
                scrape()
                paint(1)
                ways() -> 1
                """);
    }
}
