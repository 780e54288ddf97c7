/** Terms III, sentence by sentence: painting, rows, copies, layers looked through, claimants. */
public final class EdgesOfTermsIII {
    private static final String III = "Terms III";

    public static void main(String[] args) {
        painting();
        resting();
        unlike();
        money();
        rows();
        solvent();
        drift();
        undoing();
        copies();
        tree();
        dated();
        known();
        lookedThrough();
        claimants();
        ruling();
        Edges.close();
    }

    /** One PAINTER's stroke on CELL 0, which LOOKS so. */
    private static String stroke(int reach, int error, int tone, int looks, int due) {
        return "new\npainter(" + reach + ", 0)\nerr(0, 0, " + (error + 3) + ")\nfirst(0, " + tone
                + ")\nrules looks " + looks + "\npaint(0)\ntone(1, 0) -> " + due + "\n";
    }

    private static void painting() {
        Edges.sentence(III, "To PAINT in a YEAR: each CELL's TONE goes towards what it LOOKS then, by REACH at most",
                stroke(3, 0, 5, 5, 5), stroke(3, 0, 3, 5, 5), stroke(3, 0, 2, 5, 5), stroke(3, 0, 1, 5, 4),
                stroke(3, 0, 0, 5, 3), stroke(3, 0, 7, 5, 5), stroke(3, 0, 8, 5, 5), stroke(3, 0, 9, 5, 6),
                stroke(1, 0, 5, 6, 6), stroke(1, 0, 5, 7, 6), stroke(1, 0, 5, 4, 4), stroke(1, 0, 5, 3, 4),
                stroke(9, 0, 0, 9, 9), stroke(9, 0, 9, 0, 0), stroke(8, 0, 0, 9, 8), stroke(8, 0, 9, 0, 1));
        Edges.sentence(III, "and is shifted by the ERROR of its KIND; 0 .. 9, else the nearest",
                stroke(9, 3, 5, 5, 8), stroke(9, -3, 5, 5, 2), stroke(1, 1, 0, 9, 2), stroke(1, -1, 9, 0, 7),
                stroke(1, -1, 0, 9, 0), stroke(1, -2, 0, 9, 0), stroke(1, 1, 9, 0, 9), stroke(1, 2, 9, 0, 9),
                stroke(9, 3, 6, 6, 9), stroke(9, 3, 7, 7, 9), stroke(9, 3, 9, 9, 9),
                stroke(9, -3, 3, 3, 0), stroke(9, -3, 2, 2, 0), stroke(9, -3, 0, 0, 0));
        Edges.sentence(III, "LAYER k is painted in YEAR k", """
                painter(9, 0)
                rules looks year
                paint(0) -> 0
                paint(0) -> 0
                tone(1, 0) -> 1
                tone(2, 11) -> 2
                14 times paint(0)
                tone(9, 3) -> 9
                layer(10, 0) -> 0
                rules looks year; looks 5 if year=16
                layer(15, 0) -> 0
                layer(16, 0) -> 48
                scar(0, 9, 2)
                layer(8, 0) -> 0
                layer(9, 0) -> 7
                """);
        Edges.sentence(III, "LAYER k is painted in YEAR k: what he is BARRED from", """
                painter(9, 0)
                rules bars if year=2; bars if year=0
                paint(0)
                paint(0) -> refused -3
                rules bars if year=1; bars if year=3
                paint(0)
                paint(0) -> refused -3
                """);
    }

    private static void resting() {
        String three = "painter(1, 0)\npainter(1, 0)\npainter(1, 0)\npainter(1, 0)\n";
        Edges.sentence(III, "A PAINTER RESTS in a YEAR, if he painted one of the REST YEARS ahead of it (REST 0)",
                three, "4 times paint(0)");
        Edges.sentence(III, "A PAINTER RESTS in a YEAR, if he painted one of the REST YEARS ahead of it (REST 1)",
                three, """
                terms(4, 1)
                paint(0)
                paint(0) -> refused -3
                paint(1)
                paint(1) -> refused -3
                paint(0)
                scrape() -> 0
                scrape() -> 1
                paint(0) -> refused -3
                scrape() -> 0
                paint(0)
                """);
        Edges.sentence(III, "A PAINTER RESTS in a YEAR, if he painted one of the REST YEARS ahead of it (REST 2)",
                three, """
                terms(4, 2)
                paint(0)
                paint(0) -> refused -3
                paint(1)
                paint(0) -> refused -3
                paint(1) -> refused -3
                paint(2)
                paint(1) -> refused -3
                paint(0)
                """);
        Edges.sentence(III, "A PAINTER RESTS in a YEAR, if he painted one of the REST YEARS ahead of it (REST 3)",
                three, """
                terms(4, 3)
                paint(0)
                paint(1)
                paint(2)
                paint(0) -> refused -3
                paint(3)
                paint(1) -> refused -3
                paint(0)
                terms(4, 2)
                paint(1) -> 0
                """);
    }

    private static void unlike() {
        Edges.sentence(III, "UNLIKE is a PICTURE in a YEAR: how far all TONES are from what the CELLS LOOK, together", """
                layer(0, 0) -> 24
                first(0, 9)
                layer(0, 0) -> 29
                first(11, 2)
                layer(0, 0) -> 27
                rules looks 9; looks 0 if cell=0
                layer(0, 0) -> 106
                first(11, 0)
                layer(0, 0) -> 108
                rules looks 0
                first(0, 0)
                layer(0, 0) -> 0
                """);
        Edges.sentence(III, "UNLAWFUL is a LAYER, if some CELL is farther than it LETS", """
                rules looks 5; lets 3
                row 2 8 2 8 5 5 5 5 5 5 8 2
                unlawful() -> NONE
                layer(0, 3) -> NONE
                first(11, 1)
                unlawful() -> 0
                layer(0, 3) -> 11
                first(1, 9)
                layer(0, 3) -> 1
                first(0, 1)
                layer(0, 3) -> 0
                rules looks 5; lets 0
                row 5 5 5 5 5 5 5 5 5 5 5 5
                unlawful() -> NONE
                first(3, 6)
                layer(0, 3) -> 3
                first(3, 4)
                layer(0, 3) -> 3
                rules looks 9
                row 0 0 0 0 0 0 0 0 0 0 0 0
                unlawful() -> NONE
                rules looks 9; lets 8
                unlawful() -> 0
                """);
    }

    private static void money() {
        Edges.sentence(III, "MONEY behind a LAYER: INCOME for each YEAR 1 .. of it, less what all who painted till then ASK in theirs", """
                painter(1, 60)
                painter(1, 90)
                money(0) -> 0
                paint(0)
                paint(1)
                paint(0)
                money(0) -> 0
                money(1) -> 40
                money(2) -> 50
                money(3) -> 90
                money(4) -> NOTHING
                money(-1) -> NOTHING
                rules asks year*100
                money(1) -> 0
                money(2) -> -100
                money(3) -> -300
                """);
        Edges.sentence(III, "(all as the LAW, TERMS, PRICES tell it now)", """
                painter(1, 60)
                paint(0)
                money(1) -> 40
                terms(3, 999)
                money(1) -> 939
                rules asks 999
                money(1) -> 0
                terms(3, 0)
                money(1) -> -999
                broke() -> 1
                terms(2, 7)
                rules asks mood
                money(1) -> -7
                """);
    }

    private static void rows() {
        String two = "painter(1, 10)\npainter(2, 20)\nrules looks 5\n";
        Edges.sentence(III, "A ROW of PAINTERS for the next n YEARS (0 .. 5)", two, """
                plan(0, -1, 2) -> NONE
                plan(0, 0, 2) -> 1
                plan(0, 0, 0) -> 60
                plan(0, 0, 1) -> 0
                plan(0, 5, 2) -> 1
                plan(0, 5, 0) -> 0
                plan(0, 5, 1) -> 50
                plan(0, 6, 2) -> NONE
                plan(1, -1, 2) -> NONE
                plan(1, 0, 2) -> 1
                plan(1, 5, 1) -> 50
                plan(1, 6, 2) -> NONE
                plan(2, -1, 2) -> NONE
                plan(2, 0, 2) -> 1
                plan(2, 5, 0) -> 0
                plan(2, 6, 2) -> NONE
                plan(0, MIN, 2) -> NONE
                plan(0, MAX, 2) -> NONE
                plan(-1, 0, 2) -> NONE
                plan(3, 0, 2) -> NONE
                """);
        Edges.sentence(III, "none BARRED in his", "painter(1, 10)\npainter(2, 20)", """
                rules looks 5; bars if year=2 and painter=1
                plan(0, 1, 3) -> 1
                plan(0, 2, 0) -> 24
                plan(0, 2, 3) -> 1
                plan(0, 2, 4) -> 0
                plan(0, 2, 2) -> 1
                rules looks 5; bars if year=2
                plan(0, 1, 2) -> 1
                plan(0, 2, 2) -> 0
                plan(0, 2, 0) -> NONE
                plan(0, 2, 1) -> NONE
                plan(0, 2, 3) -> NONE
                plan(1, 2, 2) -> 0
                plan(2, 2, 2) -> 0
                plan(0, 0, 2) -> 1
                """);
        Edges.sentence(III, "none who RESTS", two, """
                plan(0, 3, 0) -> 0
                plan(0, 3, 1) -> 50
                plan(0, 3, 2) -> 3
                plan(0, 3, 3) -> 0
                plan(0, 3, 4) -> 1
                plan(0, 3, 5) -> 1
                terms(4, 1)
                plan(0, 3, 2) -> 1
                plan(0, 3, 1) -> 50
                plan(0, 3, 3) -> 1
                plan(0, 3, 4) -> 0
                plan(0, 3, 5) -> 1
                terms(4, 2)
                plan(0, 2, 0) -> 24
                plan(0, 2, 2) -> 2
                plan(0, 2, 3) -> 0
                plan(0, 3, 2) -> 0
                plan(1, 3, 2) -> 0
                plan(2, 3, 2) -> 0
                plan(0, 3, 0) -> NONE
                terms(4, 1)
                paint(1)
                plan(0, 1, 2) -> 1
                plan(0, 1, 3) -> 0
                plan(0, 2, 0) -> 0
                plan(0, 2, 2) -> 1
                plan(0, 2, 3) -> 0
                plan(0, 2, 4) -> 1
                terms(4, 2)
                plan(0, 1, 3) -> 0
                plan(0, 2, 2) -> 0
                terms(4, 0)
                plan(0, 2, 2) -> 2
                """);
        Edges.sentence(III, "LIKEST: that with the least UNLIKE in the end, then the least they ASK together, then the first",
                "painter(1, 5)\npainter(2, 9)\npainter(2, 8)\npainter(2, 8)\nrules looks 5", """
                plan(0, 1, 0) -> 36
                plan(0, 1, 1) -> 8
                plan(0, 1, 2) -> 2
                plan(0, 1, 3) -> 2
                plan(0, 2, 0) -> 12
                plan(0, 2, 1) -> 16
                plan(0, 2, 2) -> 4
                plan(0, 2, 3) -> 2
                plan(0, 2, 4) -> 2
                plan(0, 3, 0) -> 0
                plan(0, 3, 1) -> 21
                plan(0, 3, 2) -> 12
                plan(0, 3, 3) -> 0
                plan(0, 3, 4) -> 2
                plan(0, 3, 5) -> 2
                """);
        Edges.sentence(III, "LIKEST: .. each CELL by what it LOOKS in the YEAR",
                "painter(2, 5)\npainter(5, 9)", """
                rules looks cell; looks 9 if year=1 and cell=4; looks 0 if year=0
                plan(0, 0, 0) -> 0
                plan(0, 1, 0) -> 22
                plan(0, 1, 3) -> 1
                plan(0, 2, 0) -> 0
                plan(0, 2, 1) -> 18
                plan(0, 2, 3) -> 1
                rules looks cell; lets 0 if cell<6; lets 4 if cell>5
                plan(1, 1, 3) -> 1
                rules looks cell; lets 0 if cell<3; lets 7 if cell>2
                plan(1, 1, 3) -> 0
                plan(1, 1, 0) -> 42
                rules looks cell; lets 0 if cell<3; lets 6 if cell>2
                plan(1, 1, 3) -> 1
                plan(1, 1, 0) -> 18
                """);
        Edges.sentence(III, "CHEAPEST: the least they ASK .., then the least UNLIKE, then the first",
                "painter(1, 8)\npainter(1, 5)\npainter(2, 5)\npainter(2, 5)\nrules looks 5", """
                plan(1, 1, 0) -> 36
                plan(1, 1, 1) -> 5
                plan(1, 1, 2) -> 2
                plan(1, 1, 3) -> 2
                plan(1, 2, 0) -> 12
                plan(1, 2, 1) -> 10
                plan(1, 2, 2) -> 4
                plan(1, 2, 3) -> 2
                plan(1, 2, 4) -> 2
                plan(1, 3, 0) -> 0
                plan(1, 3, 1) -> 15
                plan(1, 3, 2) -> 20
                plan(1, 3, 3) -> 1
                plan(1, 3, 4) -> 2
                plan(1, 3, 5) -> 2
                """);
        Edges.sentence(III, "by which no new LAYER is UNLAWFUL", "painter(1, 10)\npainter(2, 20)", """
                rules looks 5; lets 4
                plan(1, 0, 2) -> 1
                plan(1, 1, 1) -> 10
                plan(1, 2, 1) -> 20
                plan(1, 2, 0) -> 36
                rules looks 5; lets 3
                plan(1, 1, 1) -> 20
                plan(1, 1, 3) -> 1
                rules looks 5; lets 2
                plan(1, 1, 2) -> 0
                plan(1, 1, 1) -> NONE
                plan(1, 1, 3) -> NONE
                plan(0, 1, 2) -> 1
                plan(1, 0, 2) -> 1
                rules looks 5; lets 3 if year=1
                plan(1, 2, 1) -> 30
                plan(1, 2, 2) -> 1
                plan(1, 2, 3) -> 1
                plan(1, 2, 4) -> 0
                rules looks 5; lets 2 if year=2
                plan(1, 2, 1) -> 30
                plan(1, 2, 2) -> 2
                plan(1, 2, 3) -> 0
                rules looks 5; lets 3 if year=1 and cell=11
                plan(1, 1, 3) -> 1
                new
                painter(1, 10)
                painter(2, 20)
                rules looks 5; lets 3 if year=1 and cell=0
                plan(1, 1, 3) -> 1
                rules looks 5; lets 3 if year=0
                plan(1, 1, 3) -> 0
                """);
    }

    private static void solvent() {
        Edges.sentence(III, "SOLVENT: as LIKEST, of those by which MONEY is never below 0 behind a new LAYER",
                "painter(1, 10)\npainter(2, 20)\nrules looks 5", """
                terms(3, 20)
                plan(2, 1, 3) -> 1
                terms(3, 19)
                plan(2, 1, 3) -> 0
                terms(3, 15)
                plan(2, 2, 0) -> 24
                plan(2, 2, 1) -> 30
                plan(2, 2, 2) -> 1
                plan(2, 2, 3) -> 0
                plan(2, 2, 4) -> 1
                terms(3, 14)
                plan(2, 2, 0) -> 36
                plan(2, 2, 1) -> 20
                terms(3, 10)
                plan(2, 2, 1) -> 20
                terms(3, 9)
                plan(2, 1, 2) -> 0
                plan(2, 1, 0) -> NONE
                plan(2, 1, 3) -> NONE
                plan(0, 1, 3) -> 1
                """);
        Edges.sentence(III, "never below 0 behind a new LAYER: behind an old one it may be",
                "painter(1, 10)\npainter(2, 20)\nrules looks 5", """
                terms(3, 15)
                paint(1)
                money(1) -> -5
                plan(2, 0, 2) -> 1
                plan(2, 0, 0) -> 36
                plan(2, 1, 2) -> 1
                plan(2, 1, 3) -> 0
                terms(3, 14)
                plan(2, 0, 2) -> 1
                plan(2, 1, 2) -> 0
                """);
        Edges.sentence(III, "never below 0 behind a new LAYER: nor on the way",
                "painter(1, 10)", """
                terms(3, 30)
                rules asks 60 if year=1; asks 0 if year=2
                plan(2, 2, 2) -> 0
                plan(0, 2, 1) -> 60
                rules asks 30 if year=1; asks 30 if year=2
                plan(2, 2, 2) -> 1
                rules asks 30 if year=1; asks 31 if year=2
                plan(2, 1, 2) -> 1
                plan(2, 2, 2) -> 0
                """);
    }

    private static void drift() {
        Edges.sentence(III, "DRIFT: the TONES a CELL can have in n YEARS (0 .. 10), whoever paints",
                "painter(1, 0)\npainter(2, 0)\nrules looks 9", """
                drift(0, -1, 2) -> NONE
                drift(0, 0, 2) -> 1
                drift(0, 1, 2) -> 6
                drift(0, 2, 2) -> 28
                drift(0, 2, 0) -> 2
                drift(0, 2, 1) -> 4
                drift(0, 8, 2) -> 768
                drift(0, 8, 0) -> 8
                drift(0, 9, 2) -> 512
                drift(0, 10, 2) -> 512
                drift(0, 10, 0) -> 9
                drift(0, 11, 2) -> NONE
                drift(0, MIN, 2) -> NONE
                drift(0, MAX, 2) -> NONE
                rules looks 9; looks 0 if year=10
                drift(0, 10, 2) -> 384
                drift(0, 9, 2) -> 512
                """);
        Edges.sentence(III, "(not BARRED; RESTS aside)", "painter(1, 0)\npainter(2, 0)", """
                rules looks 9; bars if painter=1 and year=1
                drift(0, 1, 2) -> 2
                drift(0, 2, 2) -> 12
                rules looks 9; bars if year=2
                drift(0, 1, 2) -> 6
                drift(0, 2, 2) -> 0
                drift(0, 2, 0) -> NONE
                drift(0, 2, 1) -> NONE
                drift(0, 3, 2) -> 0
                terms(4, 3)
                paint(0)
                rules looks 9
                drift(0, 1, 2) -> 12
                drift(0, 2, 2) -> 56
                """);
    }

    private static void undoing() {
        Edges.sentence(III, "UNDOING are two PAINTERS, if the one, then the other one (or he again), in the next two YEARS, leave the PICTURE as it is SEEN now",
                "painter(1, 0)\npainter(2, 0)\nrules looks 0; looks 5 if year=1", """
                undoing(NONE) -> 3
                undoing(0) -> 0
                undoing(1) -> 1
                undoing(2) -> 6
                undoing(3) -> NONE
                first(11, 1)
                undoing(NONE) -> 2
                undoing(0) -> 0
                undoing(1) -> 6
                first(11, 0)
                undoing(NONE) -> 3
                first(0, 1)
                undoing(NONE) -> 2
                first(0, 0)
                rules looks 0; looks 5 if year=2
                undoing(NONE) -> 0
                undoing(0) -> NONE
                paint(0)
                undoing(NONE) -> 3
                undoing(2) -> 6
                rules looks 0; looks 5 if year=2; looks 1 if year=3
                undoing(NONE) -> 0
                """);
        Edges.sentence(III, "(BARRED, RESTS aside)", "painter(1, 0)\npainter(2, 0)", """
                rules looks 2
                paint(0)
                paint(0)
                undoing(NONE) -> 4
                rules looks 2; bars
                undoing(NONE) -> 4
                terms(4, 3)
                undoing(NONE) -> 4
                undoing(3) -> 6
                err(1, 2, 4)
                undoing(NONE) -> 2
                undoing(1) -> 5
                """);
    }

    private static void copies() {
        Edges.sentence(III, "COPIES, 6 at most, are PICTURES",
                Edges.each(0, 5, "first(0, #)\ncopy() -> #"), """
                copy() -> refused -5
                orders copy -> refused -5 by 0
                count(4) -> 6
                touch(6, 0, 0) -> refused -2
                touch(5, 0, 9) -> 5
                touch(0, 0, 9) -> 0
                near(5) -> 1
                near(6) -> NONE
                burn() -> 6
                copy() -> 0
                """);
        Edges.sentence(III, "NEAR: CELLS in which a COPY is unlike what is SEEN", """
                copy()
                near(0) -> 0
                touch(0, 0, 9)
                near(0) -> 1
                touch(0, 11, 1)
                near(0) -> 2
                painter(1, 0)
                rules looks 1
                paint(0)
                near(0) -> 11
                touch(0, 11, 0)
                near(0) -> 12
                scrape()
                near(0) -> 1
                """);
        Edges.sentence(III, "HEIRS: those of the fewest", """
                near(NONE) -> 0
                6 times copy()
                near(NONE) -> 63
                touch(0, 0, 1)
                touch(5, 0, 1)
                near(NONE) -> 30
                first(0, 1)
                near(NONE) -> 33
                first(1, 1)
                near(NONE) -> 33
                touch(3, 0, 1)
                touch(3, 1, 1)
                near(NONE) -> 8
                burn()
                near(NONE) -> 0
                copy()
                """,
                Edges.each(0, 11, "touch(0, #, 9)"),
                "near(0) -> 12\nnear(NONE) -> 1\ncopy()\nnear(NONE) -> 2");
    }

    private static void tree() {
        Edges.sentence(III, "The TREE: COPIES, and LAYER 0 as its root, each COPY made from LAYER 0 or another COPY: the fewest CELLS changed in all", """
                tree(0) -> 0
                tree(1) -> NONE
                trees() -> 1
                copy()
                tree(0) -> 0
                tree(1) -> 100
                tree(2) -> NONE
                touch(0, 0, 1)
                touch(0, 1, 1)
                copy()
                touch(1, 0, 1)
                tree(0) -> 2
                tree(1) -> 1
                tree(2) -> 100
                trees() -> 1
                painter(9, 0)
                paint(0)
                tree(0) -> 2
                copy()
                tree(0) -> 14
                tree(3) -> 100
                trees() -> 3
                """);
        Edges.sentence(III, "the first as a row of parents by COPIES (LAYER 0 ahead of COPIES)", """
                2 times copy()
                touch(0, 0, 1)
                touch(1, 0, 2)
                tree(0) -> 2
                tree(1) -> 100
                tree(2) -> 100
                trees() -> 3
                touch(0, 1, 1)
                touch(1, 1, 1)
                tree(0) -> 3
                tree(1) -> 100
                tree(2) -> 0
                trees() -> 2
                new
                3 times copy()
                touch(0, 0, 1)
                touch(0, 1, 1)
                touch(0, 2, 1)
                touch(1, 0, 1)
                touch(1, 1, 1)
                touch(1, 2, 2)
                touch(2, 0, 1)
                touch(2, 1, 1)
                touch(2, 2, 3)
                tree(0) -> 5
                tree(1) -> 100
                tree(2) -> 0
                tree(3) -> 0
                trees() -> 9
                """);
        Edges.sentence(III, "and LAYER 0 as its root: nothing is made from what was made of it", """
                3 times copy()
                touch(0, 0, 1)
                touch(0, 1, 1)
                touch(0, 2, 1)
                touch(1, 0, 1)
                touch(1, 1, 1)
                touch(2, 0, 1)
                tree(0) -> 3
                tree(1) -> 1
                tree(2) -> 2
                tree(3) -> 100
                trees() -> 1
                touch(0, 1, 0)
                touch(0, 2, 0)
                touch(2, 1, 1)
                touch(2, 2, 1)
                tree(0) -> 3
                tree(1) -> 100
                tree(2) -> 0
                tree(3) -> 1
                touch(0, 1, 1)
                touch(1, 1, 0)
                touch(2, 3, 1)
                tree(0) -> 4
                tree(1) -> 1
                tree(2) -> 100
                tree(3) -> 0
                """);
        Edges.sentence(III, "and LAYER 0 as its root: also where three would go round",
                "4 times copy()",
                Edges.each(0, 3, "touch(#, 2, 1)\ntouch(#, 3, 1)\ntouch(#, 4, 1)\ntouch(#, 5, 1)"), """
                touch(0, 0, 1)
                touch(1, 0, 2)
                touch(2, 0, 3)
                touch(3, 0, 3)
                touch(0, 1, 1)
                touch(1, 1, 1)
                touch(2, 1, 1)
                tree(0) -> 8
                tree(1) -> 1
                tree(2) -> 2
                tree(3) -> 3
                tree(4) -> 100
                trees() -> 3
                """);
        Edges.sentence(III, "the first as a row of parents .. in how many such ways: against all rows there are",
                treeOf("22/02/02", 2, 4, 1, 100, 1),
                treeOf("21/11/20", 3, 1, 2, 0, 100),
                treeOf("10/22/02/020/22", 3, 8, 100, 2, 100, 2, 1),
                treeOf("121/22/00/22/210", 5, 24, 1, 100, 100, 1, 1),
                treeOf("01/120/102/11/11/12", 5, 40, 100, 3, 100, 0, 3, 1),
                treeOf("11/210/01/21/00/00", 3, 72, 1, 2, 100, 1, 100, 100));
        Edges.sentence(III, "the fewest CELLS changed in all: the most there can be",
                "6 times copy()",
                Edges.each(0, 11, "touch(0, #, 1)\ntouch(1, #, 2)\ntouch(2, #, 3)\ntouch(3, #, 4)\n"
                        + "touch(4, #, 5)\ntouch(5, #, 6)"),
                "tree(0) -> 72\ntrees() -> 16807\ntree(1) -> 100\ntree(6) -> 100");
        Edges.sentence(III, "in how many such ways",
                Edges.each(0, 5, "copy() -> #"),
                "trees() -> 16807\ntree(0) -> 0",
                Edges.each(1, 6, "tree(#) -> 100"),
                "tree(7) -> NONE",
                Edges.each(0, 5, "touch(#, #, 1)"), "trees() -> 1\ntree(0) -> 6",
                Edges.each(0, 5, "touch(#, #, 0)"), Edges.each(0, 5, "touch(#, 11, 1)"),
                "trees() -> 7776\ntree(0) -> 1\ntree(1) -> 100\ntree(2) -> 0\ntree(6) -> 0");
    }

    /** COPIES by the TONES of their first CELLS (0 behind them), and what the TREE is then. */
    private static String treeOf(String copies, int cells, int ways, int... parents) {
        StringBuilder all = new StringBuilder("new\n");
        String[] each = copies.split("/");
        for (int copy = 0; copy < each.length; copy++) {
            all.append("copy() -> ").append(copy).append('\n');
            for (int cell = 0; cell < each[copy].length(); cell++) {
                all.append("touch(" + copy + ", " + cell + ", " + each[copy].charAt(cell) + ")\n");
            }
        }
        all.append("tree(0) -> ").append(cells).append('\n');
        for (int i = 0; i < parents.length; i++) {
            all.append("tree(" + (i + 1) + ") -> " + parents[i] + "\n");
        }
        return all.append("trees() -> ").append(ways).append('\n').toString();
    }

    private static void dated() {
        Edges.sentence(III, "A COPY is DATED by the LAYERS from which it is unlike in the fewest CELLS",
                "painter(1, 0)\nrules looks 1\ncopy()\n3 times paint(0)\ncopy()\n2 times copy()", """
                touch(2, 0, 9)
                dated(0, 0) -> 0
                dated(0, 1) -> 0
                dated(0, 2) -> 0
                dated(0, 3) -> 1
                dated(1, 0) -> 0
                dated(1, 1) -> 1
                dated(1, 2) -> 3
                dated(1, 3) -> 3
                dated(2, 0) -> 1
                dated(2, 1) -> 1
                dated(2, 3) -> 3
                forge(2, 0, 9)
                dated(2, 0) -> 0
                dated(2, 1) -> 2
                dated(2, 2) -> 2
                dated(2, 3) -> 1
                dated(1, 1) -> 1
                dated(1, 2) -> 3
                dated(1, 3) -> 2
                """,
                Edges.each(0, 11, "touch(3, #, 8)"),
                "dated(3, 0) -> 12\ndated(3, 1) -> 0\ndated(3, 2) -> 3\ndated(3, 3) -> 4");
    }

    private static void known() {
        Edges.sentence(III, "To KNOW which COPY LAYER 0 was (one it is; alike ones need not be told apart)", """
                know(0) -> NONE
                know(1) -> NONE
                copy()
                know(0) -> 0
                know(1) -> NONE
                copy()
                know(0) -> 0
                know(1) -> NONE
                touch(1, 11, 1)
                know(0) -> 1
                know(1) -> 11
                copy()
                know(0) -> 1
                know(1) -> 11
                """);
        Edges.sentence(III, "CELLS of LAYER 0 are laid bare one by one, the next by what was seen: how many, at worst, at least", """
                4 times copy()
                touch(2, 4, 1)
                touch(3, 4, 1)
                touch(1, 2, 1)
                touch(3, 8, 1)
                know(0) -> 2
                know(1) -> 4
                touch(0, 9, 1)
                touch(1, 9, 2)
                touch(2, 9, 3)
                know(0) -> 1
                know(1) -> 9
                new
                6 times copy()
                """,
                Edges.each(0, 5, "touch(#, #, 1)"),
                "know(0) -> 5\nknow(1) -> 0");
        Edges.sentence(III, "the lowest CELL to begin with", """
                2 times copy()
                touch(0, 3, 1)
                touch(1, 7, 1)
                know(0) -> 1
                know(1) -> 3
                touch(0, 11, 5)
                know(1) -> 3
                touch(0, 3, 0)
                know(1) -> 7
                touch(1, 7, 0)
                know(1) -> 11
                touch(1, 0, 5)
                know(1) -> 0
                """);
    }

    private static void lookedThrough() {
        Edges.sentence(III, "WHO can have painted a LAYER (1 ..) from that ahead of it: PAINTERS (BARRED or not) by whom it would come out so",
                Edges.each(0, 4, "painter(1, 0)"), """
                who(0) -> NONE
                who(1) -> NONE
                rules looks 1
                paint(2)
                who(0) -> NONE
                who(1) -> 31
                who(2) -> NONE
                who(-1) -> NONE
                err(0, 0, 2)
                err(4, 2, 4)
                who(1) -> 14
                rules looks 1; bars
                who(1) -> 14
                terms(4, 3)
                who(1) -> 14
                forge(1, 11, 2)
                who(1) -> 0
                paint(5) -> refused -2
                """);
        Edges.sentence(III, "SKIPPED: the first LAYER that nobody can have painted", """
                skipped() -> NONE
                painter(1, 0)
                rules looks 2
                3 times paint(0)
                skipped() -> NONE
                forge(3, 0, 5)
                skipped() -> 3
                forge(2, 0, 6)
                skipped() -> 2
                forge(3, 0, 5)
                who(3) -> 1
                forge(1, 0, 7)
                skipped() -> 1
                first(0, 8)
                skipped() -> NONE
                """);
        Edges.sentence(III, "MISSING are one or two YEARS, if some PAINTERS, so many and one more, one behind the other, all in the YEAR of the LAYER, lead to it from that ahead of it",
                "painter(1, 0)\npainter(2, 0)\nrules looks 5 - 2*year\npaint(1)\npaint(0)", """
                tone(1, 0) -> 2
                missing(1, 0) -> NONE
                missing(1, 1) -> 1
                missing(1, 2) -> 0
                missing(1, 3) -> NONE
                missing(0, 1) -> NONE
                missing(3, 1) -> NONE
                missing(2, 1) -> 4
                missing(2, 2) -> 8
                new
                """,
                "painter(1, 0)\npainter(2, 0)\nrules looks 4 if year=1\npaint(1)\nmissing(1, 1) -> 1\nmissing(1, 2) -> 0",
                Edges.each(0, 11, "forge(1, #, 3)"),
                "missing(1, 1) -> 2\nmissing(1, 2) -> 1",
                Edges.each(0, 11, "forge(1, #, 4)"),
                "missing(1, 1) -> 1\nmissing(1, 2) -> 7\nforge(1, 11, 3)\nmissing(1, 1) -> 0\nmissing(1, 2) -> 0");
        Edges.sentence(III, "FIRST: if one knows but what is SEEN and who painted each YEAR: TONES a CELL can have had in LAYER 0",
                "was(0) -> 1\nfirst(0, 9)\nwas(0) -> 512\npainter(2, 0)\nrules looks 5", """
                first(0, 5)
                paint(0)
                was(0) -> 248
                was(1) -> 1
                paint(0)
                was(0) -> 1022
                was(1) -> 1
                forge(1, 0, 0)
                forge(1, 1, 9)
                was(0) -> 1022
                was(1) -> 1
                forge(2, 1, 5)
                was(1) -> 1022
                forge(2, 0, 0)
                was(0) -> 0
                forge(2, 0, 6)
                was(0) -> 0
                forge(1, 0, 9)
                was(0) -> 0
                scrape()
                forge(1, 0, 7)
                was(0) -> 512
                """);
        Edges.sentence(III, "in how many ways all can",
                "ways() -> 1\npainter(9, 0)\npaint(0)\nways() -> 1000000000000",
                "forge(1, 11, 3)\nways() -> 0\nforge(1, 11, 2)\nways() -> 1000000000000",
                "terms(0, 50)\nways() -> 0\nscrape()\nways() -> 1",
                "new\npainter(2, 0)\nrules looks 5\nfirst(3, 5)\nfirst(4, 7)\npaint(0)\nways() -> 25");
    }

    private static void claimants() {
        Edges.sentence(III, "CLAIMANTS 0 .. 7 (8 at most)",
                Edges.each(0, 7, "claimant(NONE, 0, 9, NONE) -> #"), """
                count(5) -> 8
                claimant(NONE, 0, 9, NONE) -> refused -5
                born(7, 2) -> 9
                born(8, 2) -> NONE
                stands(7, 0, 1) -> 7
                stands(8, 0, 1) -> NONE
                claim(7, 0, 8) -> 9
                claim(8, 0, 8) -> refused -2
                """);
        Edges.sentence(III, "a PARENT (an earlier CLAIMANT, NONE)", """
                claimant(0, 1, 2, NONE) -> refused -2
                claimant(-2, 1, 2, NONE) -> refused -1
                claimant(MIN, 1, 2, NONE) -> refused -1
                claimant(NONE, 1, 2, NONE) -> 0
                claimant(1, 1, 2, NONE) -> refused -2
                claimant(0, 1, 2, NONE) -> 1
                claimant(2, 1, 2, NONE) -> refused -2
                claimant(1, 1, 2, NONE) -> 2
                born(0, 0) -> NONE
                born(1, 0) -> 0
                born(2, 0) -> 1
                """);
        Edges.sentence(III, "BORN in a YEAR 0 .. 99", """
                claimant(NONE, -1, 50, NONE) -> refused -1
                claimant(NONE, 100, 101, NONE) -> refused -1
                claimant(NONE, MIN, 50, NONE) -> refused -1
                claimant(NONE, MAX, 50, NONE) -> refused -1
                claimant(NONE, 0, 50, NONE) -> 0
                claimant(NONE, 99, 100, NONE) -> 1
                born(0, 1) -> 0
                born(1, 1) -> 99
                stands(1, 98, 0) -> 0
                stands(1, 99, 0) -> 1
                """);
        Edges.sentence(III, "and DEAD from a YEAR on (above that, 150 at most)", """
                claimant(NONE, 10, 9, NONE) -> refused -1
                claimant(NONE, 10, 10, NONE) -> refused -1
                claimant(NONE, 10, 151, NONE) -> refused -1
                claimant(NONE, 10, -1, NONE) -> refused -1
                claimant(NONE, 10, MIN, NONE) -> refused -1
                claimant(NONE, 10, MAX, NONE) -> refused -1
                claimant(NONE, 0, 0, NONE) -> refused -1
                claimant(NONE, 10, 11, NONE) -> 0
                claimant(NONE, 10, 150, NONE) -> 1
                claimant(NONE, 99, 150, NONE) -> 2
                claim(0, 0, 10) -> refused -1
                claim(0, 0, 9) -> refused -1
                claim(0, 0, 151) -> refused -1
                claim(0, 0, 150) -> 11
                claim(0, 0, 11) -> 150
                claim(2, 0, 99) -> refused -1
                claim(2, 0, 100) -> 150
                """);
        Edges.sentence(III, "a COPY (NONE: none; one that is not there is none)", """
                claimant(NONE, 0, 9, -2) -> refused -1
                claimant(NONE, 0, 9, 6) -> refused -1
                claimant(NONE, 0, 9, MIN) -> refused -1
                claimant(NONE, 0, 9, MAX) -> refused -1
                claimant(NONE, 0, 9, NONE) -> 0
                claimant(NONE, 0, 9, 5) -> 1
                claimant(NONE, 0, 9, 0) -> 2
                rules ranks near + 20
                stands(0, 0, 1) -> 19
                stands(1, 0, 1) -> 19
                stands(2, 0, 1) -> 19
                copy()
                stands(2, 0, 1) -> 20
                stands(1, 0, 1) -> 19
                5 times copy()
                stands(1, 0, 1) -> 20
                stands(0, 0, 1) -> 19
                burn()
                stands(1, 0, 1) -> 19
                stands(2, 0, 1) -> 19
                born(1, 3) -> 5
                claim(0, 1, 5) -> NONE
                claim(0, 1, 6) -> refused -1
                claim(0, 1, -2) -> refused -1
                claim(0, 1, NONE) -> 5
                """);
        Edges.sentence(III, "ALIVE: from BORN on till DEAD", """
                claimant(NONE, 10, 12, NONE)
                stands(0, 9, 0) -> 0
                stands(0, 10, 0) -> 1
                stands(0, 11, 0) -> 1
                stands(0, 12, 0) -> 0
                line(9, NONE) -> 0
                line(10, NONE) -> 1
                line(11, NONE) -> 1
                line(12, NONE) -> 0
                claimant(0, 11, 12, NONE)
                stands(0, 10, 3) -> 0
                stands(0, 11, 3) -> 1
                stands(0, 12, 3) -> 0
                """);
    }

    private static void ruling() {
        String four = "claimant(NONE, 0, 10, NONE)\nclaimant(NONE, 0, 20, NONE)\n"
                + "claimant(NONE, 15, 30, NONE)\nclaimant(NONE, 35, 150, NONE)\n";
        Edges.sentence(III, "Who RULES in a YEAR goes on till DEAD", four, """
                ruler(0) -> 0
                ruler(9) -> 0
                ruler(10) -> 1
                ruler(19) -> 1
                ruler(20) -> 2
                ruler(29) -> 2
                ruler(30) -> NONE
                ruler(34) -> NONE
                ruler(35) -> 3
                ruler(99) -> 3
                rules ranks 9-claimant; bars if claimant=1 and year>10
                ruler(0) -> 1
                ruler(10) -> 1
                ruler(11) -> 1
                ruler(19) -> 1
                ruler(20) -> 2
                rules ranks 9 if claimant=2 and year>20; ranks 0
                ruler(25) -> 2
                """);
        Edges.sentence(III, "else, in each YEAR, who RANKS least of all ALIVE and not BARRED then, the lowest", four, """
                rules ranks 5
                ruler(0) -> 0
                ruler(15) -> 1
                rules ranks 5; ranks 4 if claimant=1
                ruler(0) -> 1
                rules bars if claimant=0 and year=0
                ruler(0) -> 1
                rules bars if year<3
                ruler(2) -> NONE
                ruler(3) -> 0
                rules bars if claimant=1 and year=10
                ruler(9) -> 0
                ruler(10) -> NONE
                ruler(11) -> 1
                rules bars if year=99; bars if year>34
                ruler(99) -> NONE
                """);
        Edges.sentence(III, "from YEAR 0 on", """
                ruler(0) -> NONE
                claimant(NONE, 0, 1, NONE)
                ruler(0) -> 0
                ruler(1) -> NONE
                ruler(-1) -> NONE
                claimant(NONE, 99, 100, NONE)
                ruler(98) -> NONE
                ruler(99) -> 1
                ruler(100) -> NONE
                """);
        Edges.sentence(III, "A REIGN: the YEARS one RULES, one behind the other", four, """
                reign(NONE, 0) -> 4
                reign(0, 0) -> 0
                reign(0, 1) -> 0
                reign(0, 2) -> 10
                reign(1, 0) -> 1
                reign(1, 1) -> 10
                reign(1, 2) -> 10
                reign(2, 0) -> 2
                reign(2, 1) -> 20
                reign(2, 2) -> 10
                reign(3, 0) -> 3
                reign(3, 1) -> 35
                reign(3, 2) -> 65
                reign(4, 0) -> NONE
                vacant() -> 5
                """);
        Edges.sentence(III, "A LINE in a YEAR: all ALIVE and not BARRED, by RANKS, then numbers", four, """
                line(0, NONE) -> 2
                line(0, 0) -> 0
                line(0, 1) -> 1
                line(0, 2) -> NONE
                line(15, NONE) -> 2
                line(15, 0) -> 1
                line(15, 1) -> 2
                line(30, NONE) -> 0
                line(30, 0) -> NONE
                rules ranks 9-claimant
                line(0, 0) -> 1
                line(0, 1) -> 0
                rules ranks 5
                line(0, 0) -> 0
                line(0, 1) -> 1
                rules bars if claimant=0
                line(0, NONE) -> 1
                line(0, 0) -> 1
                line(0, 1) -> NONE
                """,
                "new", Edges.each(0, 7, "claimant(NONE, 0, 9, NONE)"),
                "line(0, NONE) -> 8", Edges.each(0, 7, "line(0, #) -> #"), "line(0, 8) -> NONE",
                "rules ranks claimant/2*2-claimant+1\nline(0, 0) -> 1\nline(0, 3) -> 7\nline(0, 4) -> 0\nline(0, 7) -> 6");
    }
}
