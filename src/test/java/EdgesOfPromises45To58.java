/** Promises 45 to 58, sentence by sentence: claimants, centuries, images, counts. */
public final class EdgesOfPromises45To58 {
    public static void main(String[] args) {
        claimant();
        claim();
        born();
        stands();
        ruling();
        century();
        images();
        counts();
        status();
        Edges.close();
    }

    private static void claimant() {
        Edges.sentence("Promise 45, claimant", "A CLAIMANT: the number. -1 (PARENT below NONE, COPY below NONE or above 5, too); -2 (no such PARENT); -5", """
                claimant(NONE, 0, 1, NONE) -> 0
                claimant(-2, 0, 1, NONE) -> refused -1
                claimant(NONE, 0, 1, -2) -> refused -1
                claimant(NONE, 0, 1, 6) -> refused -1
                claimant(NONE, -1, 1, NONE) -> refused -1
                claimant(NONE, 100, 101, NONE) -> refused -1
                claimant(NONE, 5, 5, NONE) -> refused -1
                claimant(NONE, 5, 151, NONE) -> refused -1
                claimant(1, 0, 1, NONE) -> refused -2
                claimant(1, 0, 1, 6) -> refused -1
                claimant(1, 100, 101, 0) -> refused -1
                claimant(1, 5, 5, 0) -> refused -1
                claimant(0, 99, 150, 5) -> 1
                claimant(1, 0, 1, 0) -> 2
                5 times claimant(NONE, 5, 6, NONE)
                claimant(NONE, 5, 6, NONE) -> refused -5
                claimant(7, 5, 6, NONE) -> refused -5
                claimant(8, 5, 6, NONE) -> refused -2
                claimant(8, 5, 5, NONE) -> refused -1
                claimant(-2, 5, 6, NONE) -> refused -1
                count(5) -> 8
                """);
    }

    private static void claim() {
        Edges.sentence("Promise 46, claim", "DEAD (what 0), COPY (1) of a CLAIMANT: what it was. -1", """
                claimant(NONE, 10, 20, NONE)
                claimant(NONE, 0, 30, 2)
                claim(0, 0, 11) -> 20
                claim(0, 0, 150) -> 11
                claim(0, 1, 0) -> NONE
                claim(0, 1, 5) -> 0
                claim(1, 1, NONE) -> 2
                claim(1, 1, NONE) -> NONE
                claim(0, 0, 151) -> refused -1
                claim(0, 0, MAX) -> refused -1
                claim(0, 0, MIN) -> refused -1
                claim(0, 0, -1) -> refused -1
                claim(0, 1, 6) -> refused -1
                claim(0, 1, -2) -> refused -1
                claim(0, 1, MIN) -> refused -1
                claim(0, 1, MAX) -> refused -1
                claim(0, 2, 20) -> refused -1
                claim(0, -1, 20) -> refused -1
                claim(0, MIN, 20) -> refused -1
                claim(0, MAX, 20) -> refused -1
                born(0, 2) -> 150
                born(0, 3) -> 5
                born(1, 2) -> 30
                """);
        Edges.sentence("Promise 46, claim", "(DEAD not above BORN: behind -2); -2", """
                claim(0, 0, 0) -> refused -2
                claim(0, 0, 150) -> refused -2
                claim(0, 0, 151) -> refused -1
                claim(0, 0, -1) -> refused -1
                claim(0, 1, 5) -> refused -2
                claim(0, 1, NONE) -> refused -2
                claim(0, 1, 6) -> refused -1
                claim(0, 1, -2) -> refused -1
                claim(0, 2, 0) -> refused -1
                claimant(NONE, 10, 20, NONE)
                claimant(NONE, 0, 20, NONE)
                claim(0, 0, 10) -> refused -1
                claim(0, 0, 9) -> refused -1
                claim(0, 0, 0) -> refused -1
                claim(0, 0, 11) -> 20
                claim(1, 0, 0) -> refused -1
                claim(1, 0, 1) -> 20
                claim(2, 0, 0) -> refused -2
                claim(-1, 0, 0) -> refused -2
                claim(-1, 0, -1) -> refused -1
                claim(MIN, 0, 5) -> refused -2
                claim(MAX, 0, 5) -> refused -2
                claim(2, 0, 151) -> refused -1
                born(0, 2) -> 11
                """);
    }

    private static void born() {
        Edges.sentence("Promise 47, born", "Of a CLAIMANT PARENT (what 0), BORN (1), DEAD (2), COPY (3). NONE",
                "born(0, 1) -> NONE\nclaimant(NONE, 7, 8, NONE)\nclaimant(0, 99, 150, 5)", """
                born(0, 0) -> NONE
                born(0, 1) -> 7
                born(0, 2) -> 8
                born(0, 3) -> NONE
                born(1, 0) -> 0
                born(1, 1) -> 99
                born(1, 2) -> 150
                born(1, 3) -> 5
                born(1, 4) -> NONE
                born(1, -1) -> NONE
                born(1, MIN) -> NONE
                born(1, MAX) -> NONE
                born(2, 1) -> NONE
                born(-1, 1) -> NONE
                born(MIN, 1) -> NONE
                born(MAX, 1) -> NONE
                """);
    }

    private static void stands() {
        Edges.sentence("Promise 48, stands", "In a YEAR whether a CLAIMANT is ALIVE (what 0: 1, 0), RANKS (1), is BARRED (2), how many children are ALIVE (3). NONE", """
                stands(0, 0, 0) -> NONE
                claimant(NONE, 0, 100, NONE)
                claimant(0, 99, 150, NONE)
                claimant(0, 50, 51, NONE)
                rules ranks year*3; bars if year=98
                stands(0, 0, 0) -> 1
                stands(0, 99, 0) -> 1
                stands(1, 98, 0) -> 0
                stands(1, 99, 0) -> 1
                stands(0, 0, 1) -> 0
                stands(0, 99, 1) -> 297
                stands(0, 97, 2) -> 0
                stands(0, 98, 2) -> 1
                stands(0, 99, 2) -> 0
                stands(0, 49, 3) -> 0
                stands(0, 50, 3) -> 1
                stands(0, 51, 3) -> 0
                stands(0, 99, 3) -> 1
                stands(1, 99, 3) -> 0
                stands(0, 100, 0) -> NONE
                stands(0, -1, 0) -> NONE
                stands(0, MIN, 0) -> NONE
                stands(0, MAX, 0) -> NONE
                stands(0, 100, 3) -> NONE
                stands(3, 0, 0) -> NONE
                stands(-1, 0, 0) -> NONE
                stands(MIN, 0, 0) -> NONE
                stands(MAX, 0, 0) -> NONE
                stands(0, 0, 4) -> NONE
                stands(0, 0, -1) -> NONE
                stands(0, 0, MIN) -> NONE
                stands(0, 0, MAX) -> NONE
                """);
    }

    private static void ruling() {
        Edges.sentence("Promise 49, ruler", "Who RULES in a YEAR 0 .. 99. NONE (nobody, too)", """
                ruler(0) -> NONE
                ruler(99) -> NONE
                claimant(NONE, 1, 99, NONE)
                ruler(0) -> NONE
                ruler(1) -> 0
                ruler(98) -> 0
                ruler(99) -> NONE
                ruler(100) -> NONE
                ruler(-1) -> NONE
                ruler(MIN) -> NONE
                ruler(MAX) -> NONE
                claim(0, 0, 150)
                ruler(99) -> 0
                ruler(100) -> NONE
                """);
        Edges.sentence("Promise 50, reign", "REIGNS in YEARS 0 .. 99: how many (i NONE); of the i-th who (what 0), from when (1), how many YEARS (2). NONE", """
                reign(NONE, 0) -> 0
                reign(0, 0) -> NONE
                claimant(NONE, 0, 1, NONE)
                claimant(NONE, 98, 99, NONE)
                claimant(NONE, 99, 150, NONE)
                claimant(NONE, 1, 2, NONE)
                reign(NONE, 0) -> 4
                reign(0, 0) -> 0
                reign(0, 1) -> 0
                reign(0, 2) -> 1
                reign(1, 0) -> 3
                reign(1, 1) -> 1
                reign(1, 2) -> 1
                reign(2, 0) -> 1
                reign(2, 1) -> 98
                reign(2, 2) -> 1
                reign(3, 0) -> 2
                reign(3, 1) -> 99
                reign(3, 2) -> 1
                reign(4, 0) -> NONE
                reign(-2, 0) -> NONE
                reign(MIN, 0) -> NONE
                reign(MAX, 0) -> NONE
                reign(0, 3) -> NONE
                reign(0, -1) -> NONE
                reign(0, MIN) -> NONE
                reign(0, MAX) -> NONE
                new
                claimant(NONE, 0, 150, NONE)
                reign(NONE, 0) -> 1
                reign(0, 2) -> 100
                reign(1, 0) -> NONE
                """);
        Edges.sentence("Promise 50, reign", "as many as there can be",
                Edges.each(0, 7, "claimant(NONE, #0, #5, NONE)"),
                "reign(NONE, 0) -> 8\nreign(7, 0) -> 7\nreign(7, 1) -> 70\nreign(7, 2) -> 5\nreign(8, 0) -> NONE",
                "vacant() -> 60");
        Edges.sentence("Promise 51, vacant", "In how many YEARS 0 .. 99 nobody RULES", """
                vacant() -> 100
                claimant(NONE, 0, 1, NONE)
                vacant() -> 99
                claimant(NONE, 99, 150, NONE)
                vacant() -> 98
                claim(0, 0, 99)
                vacant() -> 0
                rules bars if year<1
                vacant() -> 1
                rules bars
                vacant() -> 100
                """);
        Edges.sentence("Promise 52, line", "A LINE in a YEAR: how many (i NONE), the i-th. NONE", """
                line(0, NONE) -> 0
                line(0, 0) -> NONE
                claimant(NONE, 0, 150, NONE)
                claimant(NONE, 0, 150, NONE)
                claimant(NONE, 99, 150, NONE)
                line(0, NONE) -> 2
                line(0, 0) -> 0
                line(0, 1) -> 1
                line(0, 2) -> NONE
                line(99, NONE) -> 3
                line(99, 2) -> 2
                line(99, 3) -> NONE
                line(98, 2) -> NONE
                line(0, -2) -> NONE
                line(0, MIN) -> NONE
                line(0, MAX) -> NONE
                line(100, NONE) -> NONE
                line(100, 0) -> NONE
                line(-1, NONE) -> NONE
                line(-1, 0) -> NONE
                line(MIN, 0) -> NONE
                line(MAX, NONE) -> NONE
                """);
    }

    private static void century() {
        Edges.sentence("Promise 53, century", "A CENTURY, n 0 .. 40, from what is SEEN, kept as the latest: UNLIKE in the end", """
                painter(9, 0)
                first(0, 9)
                century(5, 0) -> 29
                drawn(0) -> 9
                paint(0)
                century(5, 0) -> 0
                drawn(0) -> 2
                century(0, 40)
                drawn(100) -> 40
                century(0, 39)
                drawn(100) -> 39
                count(3) -> 1
                """);
        Edges.sentence("Promise 53, century", "-1: then the latest stays", """
                century(0, 41) -> refused -1
                drawn(0) -> NONE
                painter(9, 0)
                century(0, 1)
                first(0, 5)
                century(0, 41) -> refused -1
                century(0, -1) -> refused -1
                century(-1, 0) -> refused -1
                century(1000001, 0) -> refused -1
                century(MIN, MIN) -> refused -1
                century(MAX, MAX) -> refused -1
                drawn(100) -> 1
                drawn(0) -> 3
                """);
        Edges.sentence("Promise 54, drawn", "The TONE of a CELL in the end of the latest CENTURY (cell 0 .. 11), how many YEARS each PAINTER painted in it (100 and his number). NONE", """
                drawn(0) -> NONE
                drawn(11) -> NONE
                drawn(100) -> NONE
                4 times painter(1, 0)
                first(11, 6)
                century(9, 0)
                drawn(0) -> 0
                drawn(11) -> 6
                drawn(12) -> NONE
                drawn(-1) -> NONE
                drawn(99) -> NONE
                drawn(100) -> 0
                drawn(103) -> 0
                drawn(104) -> NONE
                painter(1, 0)
                drawn(104) -> NONE
                century(9, 0)
                drawn(104) -> 0
                drawn(105) -> NONE
                drawn(MIN) -> NONE
                drawn(MAX) -> NONE
                first(11, 0)
                drawn(11) -> 6
                """);
    }

    private static void images() {
        Edges.sentence("Promise 55, image", "IMAGE k is kept: 0; -1", """
                image(0) -> 0
                image(1) -> 0
                image(2) -> refused -1
                image(-1) -> refused -1
                image(MIN) -> refused -1
                image(MAX) -> refused -1
                first(0, 4)
                image(1) -> 0
                back(0) -> 0
                tone(0, 0) -> 0
                back(1) -> 0
                tone(0, 0) -> 4
                """);
        Edges.sentence("Promise 56, back", "BACK to IMAGE k: 0. -1; -2 it was not kept", """
                back(0) -> refused -2
                back(1) -> refused -2
                back(2) -> refused -1
                back(-1) -> refused -1
                back(MIN) -> refused -1
                back(MAX) -> refused -1
                first(0, 4)
                image(0)
                back(1) -> refused -2
                first(0, 5)
                back(0) -> 0
                tone(0, 0) -> 4
                image(1)
                back(1) -> 0
                back(2) -> refused -1
                """);
    }

    private static void counts() {
        Edges.sentence("Promise 57, count", "0 PAINTERS, 1 LAWS, 2 SCARS, 3 YEARS painted, 4 COPIES, 5 CLAIMANTS, 6 bytes of the TAPE", """
                5 times painter(1, 0)
                4 times scar(0, 0, 1)
                3 times paint(0)
                2 times copy()
                6 times claimant(NONE, 0, 1, NONE)
                law looks 1 -> 0
                tape 'looks 12'
                count(0) -> 5
                count(1) -> 1
                count(2) -> 4
                count(3) -> 3
                count(4) -> 2
                count(5) -> 6
                count(6) -> 8
                """);
        Edges.sentence("Promise 57, count", "7 .. 11 how many calls were REFUSED by -1, -2, -3, -5, -6", """
                first(12, 0) -> refused -1
                5 times painter(0, 0) -> refused -1
                4 times heal(0) -> refused -2
                3 times scrape() -> refused -3
                6 times copy()
                2 times copy() -> refused -5
                row() -> refused -6
                law ! -> fault 0
                orders scrape -> refused -3 by 0
                orders copy -> refused -5 by 0
                count(7) -> 6
                count(8) -> 4
                count(9) -> 4
                count(10) -> 3
                count(11) -> 2
                """);
        Edges.sentence("Promise 57, count", "7 .. 11: what only asks is not REFUSED, feed, end are not", """
                looks(12, 0, 0) -> NONE
                money(5) -> NOTHING
                near(5) -> NONE
                plan(9, 9, 9) -> NONE
                end(5) -> NONE
                end(-1) -> NONE
                20 times feed(0, 0, 0, 0, 0)
                feed(0, 0, 0, 0, 0) -> NONE
                burn() -> 0
                drawn(0) -> NONE
                force(NONE) -> NONE
                count(7) -> 0
                count(8) -> 0
                count(9) -> 0
                count(10) -> 0
                count(11) -> 0
                """);
        Edges.sentence("Promise 57, count", "12 the LAW in FORCE, 13 .. 17 TERMS 0 .. 4. NONE for others", """
                count(12) -> NONE
                law looks 1 -> 0
                force(0)
                terms(0, 91)
                terms(1, 2)
                terms(2, 3)
                terms(3, 94)
                terms(4, 1)
                count(12) -> 0
                count(13) -> 91
                count(14) -> 2
                count(15) -> 3
                count(16) -> 94
                count(17) -> 1
                count(18) -> NONE
                count(-1) -> NONE
                count(MIN) -> NONE
                count(MAX) -> NONE
                """);
    }

    /** One call that is not REFUSED behind one that was, and the other way round. */
    private static String turn(String taken, String refused, int code) {
        return taken + "\nstatus() -> 0\n" + refused + " -> refused " + code + "\nstatus() -> " + code + "\n";
    }

    private static void status() {
        Edges.sentence("Promise 58, status", "What the latest call of first, painter, .. back was REFUSED by; 0 if it was not, or ahead of any",
                "status() -> 0",
                turn("first(0, 0)", "first(12, 0)", -1),
                turn("painter(1, 0)", "painter(0, 0)", -1),
                turn("err(0, 0, 3)", "err(1, 0, 3)", -2),
                turn("terms(0, 20)", "terms(5, 0)", -1),
                turn("scar(0, 0, 0)", "scar(12, 0, 0)", -1),
                turn("heal(0)", "heal(0)", -2),
                turn("row 1", "row()", -6),
                turn("law looks 2", "law()", -6),
                turn("orders copy", "orders scrape", -3),
                turn("force(0)", "force(1)", -2),
                turn("paint(0)", "paint(1)", -2),
                turn("scrape()", "scrape()", -3),
                turn("5 times copy()", "copy()", -5),
                turn("touch(0, 0, 0)", "touch(6, 0, 0)", -2));
        Edges.sentence("Promise 58, status", ".. forge, claimant, claim, century, image, back ..",
                "painter(1, 0)\npaint(0)",
                turn("forge(1, 0, 0)", "forge(2, 0, 0)", -2),
                turn("claimant(NONE, 0, 1, NONE)", "claimant(1, 0, 1, NONE)", -2),
                turn("claim(0, 1, NONE)", "claim(0, 0, 0)", -1),
                turn("century(0, 0)", "century(0, 41)", -1),
                turn("image(0)", "image(2)", -1),
                turn("back(0)", "back(1)", -2));
        Edges.sentence("Promise 58, status", "the latest call of those: no other changes it", """
                paint(0) -> refused -2
                feed(0, 0, 0, 0, 0) -> 20
                status() -> -2
                end(0) -> 0
                status() -> -2
                end(1) -> NONE
                status() -> -2
                burn() -> 0
                status() -> -2
                of(0, 0) -> NONE
                looks(0, 0, 0) -> 2
                plan(0, 1, 0) -> NONE
                tone(0, 0) -> 0
                count(0) -> 0
                fault() -> NONE
                status() -> -2
                first(0, 0) -> 0
                status() -> 0
                20 times feed(0, 0, 0, 0, 0)
                feed(0, 0, 0, 0, 0) -> NONE
                end(-1) -> NONE
                looks(12, 0, 0) -> NONE
                status() -> 0
                """);
    }
}
