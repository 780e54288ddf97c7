/** Terms I, sentence by sentence: the last number that can be and the first that can't. */
public final class EdgesOfTermsI {
    private static final String I = "Terms I";

    public static void main(String[] args) {
        pictures();
        layers();
        painters();
        scars();
        terms();
        ages();
        noSuch();
        order();
        noRoom();
        texts();
        Edges.close();
    }

    private static void pictures() {
        Edges.sentence(I, "A PICTURE has CELLS 0 .. 11", """
                painter(1, 0)
                first(0, 1) -> 0
                first(11, 1) -> 0
                first(-1, 1) -> refused -1
                first(12, 1) -> refused -1
                first(MIN, 1) -> refused -1
                first(MAX, 1) -> refused -1
                scar(0, 50, 1) -> 0
                scar(11, 50, 1) -> 1
                scar(-1, 50, 1) -> refused -1
                scar(12, 50, 1) -> refused -1
                copy() -> 0
                touch(0, 0, 2) -> 1
                touch(0, 11, 2) -> 1
                touch(0, -1, 2) -> refused -1
                touch(0, 12, 2) -> refused -1
                paint(0)
                forge(1, 0, 5) -> 2
                forge(1, 11, 5) -> 2
                forge(1, -1, 5) -> refused -1
                forge(1, 12, 5) -> refused -1
                tone(1, 0) -> 5
                tone(1, 11) -> 5
                tone(1, -1) -> NONE
                tone(1, 12) -> NONE
                looks(0, 0, 0) -> 2
                looks(11, 0, 0) -> 2
                looks(-2, 0, 0) -> NONE
                looks(12, 0, 0) -> NONE
                drift(0, 0, 0) -> 5
                drift(11, 0, 0) -> 5
                drift(-1, 0, 0) -> NONE
                drift(12, 0, 0) -> NONE
                was(0) -> 64
                was(11) -> 64
                was(-1) -> NONE
                was(12) -> NONE
                century(0, 0)
                drawn(0) -> 5
                drawn(11) -> 5
                drawn(-1) -> NONE
                drawn(12) -> NONE
                """);
        Edges.sentence(I, "each of a TONE 0 .. 9", """
                painter(1, 0)
                first(3, 9) -> 0
                first(3, 0) -> 9
                first(3, -1) -> refused -1
                first(3, 10) -> refused -1
                first(3, MIN) -> refused -1
                first(3, MAX) -> refused -1
                scar(3, 50, 0) -> 0
                scar(3, 50, 9) -> 1
                scar(3, 50, -1) -> refused -1
                scar(3, 50, 10) -> refused -1
                copy()
                touch(0, 3, 9) -> 0
                touch(0, 3, 0) -> 9
                touch(0, 3, -1) -> refused -1
                touch(0, 3, 10) -> refused -1
                paint(0)
                forge(1, 3, 9) -> 1
                forge(1, 3, 0) -> 9
                forge(1, 3, -1) -> refused -1
                forge(1, 3, 10) -> refused -1
                row 9 10 -> 1
                tone(0, 0) -> 9
                tone(0, 1) -> 0
                """);
    }

    private static void layers() {
        Edges.sentence(I, "LAYER 0 as told (TONE 0 all over at first)",
                Edges.each(0, 11, "tone(0, #) -> 0"), """
                layer(0, 1) -> NONE
                tone(-1, 0) -> NONE
                tone(1, 0) -> NONE
                first(7, 4)
                tone(0, 7) -> 4
                """);
        Edges.sentence(I, "one more for each YEAR that is painted, 16 at most besides", """
                painter(1, 0)
                15 times paint(0)
                tone(15, 0) -> 3
                tone(16, 0) -> NONE
                paint(0) -> 0
                count(3) -> 16
                tone(16, 0) -> 3
                tone(17, 0) -> NONE
                paint(0) -> refused -5
                orders paint by 0 -> refused -5 by 0
                orders paint likest -> refused -5 by 0
                orders paint cheapest -> refused -5 by 0
                orders scrape; paint by 0 -> 2
                orders scrape; paint by 0 times 2 -> refused -5 by 1
                count(3) -> 16
                scrape() -> 0
                paint(0) -> 0
                paint(0) -> refused -5
                """);
        Edges.sentence(I, "the last is what is SEEN", """
                first(0, 5)
                painter(1, 0)
                copy() -> 0
                drift(0, 0, 0) -> 5
                paint(0)
                copy() -> 1
                drift(0, 0, 0) -> 4
                near(0) -> 12
                near(1) -> 0
                like(1, NONE) -> 12
                touch(0, 0, 0) -> 5
                touch(1, 0, 0) -> 4
                scrape()
                drift(0, 0, 0) -> 5
                near(0) -> 1
                """);
    }

    private static void painters() {
        Edges.sentence(I, "PAINTERS 0 .. 4 (5 at most)",
                Edges.each(0, 4, "painter(1, 7) -> #"), """
                count(0) -> 5
                painter(1, 7) -> refused -5
                count(0) -> 5
                of(4, 1) -> 7
                of(5, 1) -> NONE
                of(-1, 1) -> NONE
                err(4, 0, 2) -> 3
                err(5, 0, 2) -> refused -2
                asks(4, 1, 0) -> 7
                asks(5, 1, 0) -> NONE
                asks(-1, 1, 0) -> NONE
                paint(5) -> refused -2
                paint(-1) -> refused -2
                paint(4)
                layer(1, 1) -> 4
                who(1) -> 16
                century(3, 0)
                drawn(104) -> 0
                drawn(105) -> NONE
                """);
        Edges.sentence(I, "REACH 1 .. 9", """
                painter(0, 0) -> refused -1
                painter(10, 0) -> refused -1
                painter(-1, 0) -> refused -1
                painter(MIN, 0) -> refused -1
                painter(MAX, 0) -> refused -1
                painter(1, 0) -> 0
                painter(9, 0) -> 1
                of(0, 0) -> 1
                of(1, 0) -> 9
                rules looks 9
                plan(0, 1, 0) -> 0
                plan(0, 1, 3) -> 1
                paint(0) -> 96
                tone(1, 0) -> 1
                paint(1) -> 0
                tone(2, 0) -> 9
                """);
        Edges.sentence(I, "PRICE 0 .. 99", """
                painter(1, -1) -> refused -1
                painter(1, 100) -> refused -1
                painter(1, MIN) -> refused -1
                painter(1, MAX) -> refused -1
                painter(1, 0) -> 0
                painter(1, 99) -> 1
                of(0, 1) -> 0
                of(1, 1) -> 99
                asks(0, 0, 0) -> 0
                asks(1, 0, 0) -> 99
                """);
        Edges.sentence(I, "ERRORS -3 .. 3 .. (.. 0 at first)", """
                painter(9, 0)
                of(0, 2) -> 3
                of(0, 3) -> 3
                of(0, 4) -> 3
                rules looks 5
                paint(0) -> 0
                err(0, 0, -1) -> refused -1
                err(0, 0, 7) -> refused -1
                err(0, 0, MIN) -> refused -1
                err(0, 0, MAX) -> refused -1
                err(0, 0, 0) -> 3
                paint(0) -> 12
                tone(2, 0) -> 2
                err(0, 0, 6) -> 0
                paint(0) -> 12
                tone(3, 0) -> 8
                err(0, 0, 2) -> 6
                paint(0) -> 4
                tone(4, 0) -> 4
                """);
        Edges.sentence(I, "of three KINDS of CELLS (CELL modulo 3 ..)", """
                painter(9, 0)
                err(0, -1, 3) -> refused -1
                err(0, 3, 3) -> refused -1
                err(0, MIN, 3) -> refused -1
                err(0, MAX, 3) -> refused -1
                err(0, 0, 4) -> 3
                err(0, 1, 5) -> 3
                err(0, 2, 6) -> 3
                of(0, 2) -> 4
                of(0, 3) -> 5
                of(0, 4) -> 6
                rules looks 5
                paint(0) -> 24
                """,
                "tone(1, 0) -> 6\ntone(1, 3) -> 6\ntone(1, 6) -> 6\ntone(1, 9) -> 6",
                "tone(1, 1) -> 7\ntone(1, 4) -> 7\ntone(1, 7) -> 7\ntone(1, 10) -> 7",
                "tone(1, 2) -> 8\ntone(1, 5) -> 8\ntone(1, 8) -> 8\ntone(1, 11) -> 8");
    }

    private static void scars() {
        Edges.sentence(I, "SCARS 0 .. 5 (6 at most)",
                Edges.each(0, 5, "scar(#, 0, 9) -> #"), """
                count(2) -> 6
                scar(6, 0, 9) -> refused -5
                looks(5, 0, 0) -> 9
                looks(6, 0, 0) -> 2
                heal(6) -> refused -2
                heal(-1) -> refused -2
                heal(5) -> 5
                heal(5) -> refused -2
                looks(5, 0, 0) -> 2
                scar(6, 0, 9) -> 5
                scar(7, 0, 9) -> refused -5
                """);
        Edges.sentence(I, "a CELL has a TONE from a YEAR on", """
                scar(3, 10, 9)
                looks(3, 9, 0) -> 2
                looks(3, 10, 0) -> 9
                looks(3, 11, 0) -> 9
                looks(3, 99, 0) -> 9
                looks(2, 10, 0) -> 3
                looks(4, 10, 0) -> 3
                scar(5, 0, 7)
                looks(5, 0, 0) -> 7
                scar(6, 99, 1)
                looks(6, 98, 0) -> 9
                looks(6, 99, 0) -> 1
                """);
    }

    private static void terms() {
        Edges.sentence(I, "TERMS: 0 .. 4", """
                terms(-1, 0) -> refused -1
                terms(5, 0) -> refused -1
                terms(MIN, 0) -> refused -1
                terms(MAX, 0) -> refused -1
                terms(0, 20) -> 20
                terms(4, 0) -> 0
                """);
        term(0, 99, 20);
        term(1, 5, 3);
        term(2, 9, 0);
        term(3, 999, 100);
        term(4, 3, 0);
        Edges.sentence(I, "0 AGE .. that of the sitter in YEAR 0", """
                looks(NONE, 0, 0) -> 20
                terms(0, 0)
                looks(NONE, 0, 0) -> 0
                terms(0, 99)
                looks(NONE, 0, 0) -> 99
                """);
        Edges.sentence(I, "1 PACE, told as 0 .. 5, -2 .. 3 (told as 3: 1)", """
                looks(NONE, 10, 0) -> 30
                terms(0, 50)
                terms(1, 0)
                looks(NONE, 10, 0) -> 30
                terms(1, 1)
                looks(NONE, 10, 0) -> 40
                terms(1, 2)
                looks(NONE, 10, 0) -> 50
                terms(1, 3)
                looks(NONE, 10, 0) -> 60
                terms(1, 4)
                looks(NONE, 10, 0) -> 70
                terms(1, 5)
                looks(NONE, 10, 0) -> 80
                """);
        Edges.sentence(I, "2 MOOD 0 .. 9 (0)", """
                rules looks mood
                looks(0, 0, 0) -> 0
                terms(2, 9)
                looks(0, 0, 0) -> 9
                """);
        Edges.sentence(I, "3 INCOME 0 .. 999 (100)", """
                painter(1, 0)
                paint(0)
                money(1) -> 100
                terms(3, 0)
                money(1) -> 0
                terms(3, 999)
                money(1) -> 999
                """);
        Edges.sentence(I, "4 REST 0 .. 3 (0)", """
                painter(1, 0)
                paint(0)
                paint(0) -> 0
                terms(4, 3)
                paint(0) -> refused -3
                """);
    }

    private static void term(int what, int highest, int atFirst) {
        String call = "terms(" + what + ", ";
        Edges.sentence(I, "TERM " + what + ": 0 .. " + highest + " (" + atFirst + ")",
                "count(" + (13 + what) + ") -> " + atFirst,
                call + "-1) -> refused -1",
                call + (highest + 1) + ") -> refused -1",
                call + "MIN) -> refused -1",
                call + "MAX) -> refused -1",
                call + "0) -> " + atFirst,
                "count(" + (13 + what) + ") -> 0",
                call + highest + ") -> 0",
                "count(" + (13 + what) + ") -> " + highest,
                call + "1) -> " + highest);
    }

    private static void ages() {
        Edges.sentence(I, "so many years older each YEAR (AGE 0 at least ..)", """
                terms(0, 3)
                terms(1, 1)
                looks(NONE, 2, 0) -> 1
                looks(NONE, 3, 0) -> 0
                looks(NONE, 4, 0) -> 0
                looks(NONE, 99, 0) -> 0
                terms(1, 0)
                looks(NONE, 1, 0) -> 1
                looks(NONE, 2, 0) -> 0
                looks(0, 99, 0) -> 0
                rules looks 5 if age = 0
                looks(0, 1, 0) -> 0
                looks(0, 2, 0) -> 5
                looks(0, 99, 0) -> 5
                """);
        Edges.sentence(I, "so many years older each YEAR (.. 199 at most)", """
                terms(0, 99)
                terms(1, 4)
                looks(NONE, 49, 0) -> 197
                looks(NONE, 50, 0) -> 199
                looks(NONE, 51, 0) -> 199
                terms(0, 98)
                terms(1, 5)
                looks(NONE, 33, 0) -> 197
                looks(NONE, 34, 0) -> 199
                looks(NONE, 99, 0) -> 199
                terms(0, 99)
                looks(NONE, 33, 0) -> 198
                rules looks 5 if age = 199
                looks(0, 33, 0) -> 9
                looks(0, 34, 0) -> 5
                looks(0, 99, 0) -> 5
                """);
    }

    private static void noSuch() {
        Edges.sentence(I, "-2 there is no such PAINTER", """
                paint(0) -> refused -2
                err(0, 0, 0) -> refused -2
                painter(1, 0)
                paint(1) -> refused -2
                paint(-1) -> refused -2
                paint(MIN) -> refused -2
                paint(MAX) -> refused -2
                err(1, 0, 0) -> refused -2
                err(-1, 0, 0) -> refused -2
                err(MIN, 0, 0) -> refused -2
                err(MAX, 0, 0) -> refused -2
                """);
        Edges.sentence(I, "-2 there is no such .. LAW", """
                force(0) -> refused -2
                law looks 1 -> 0
                force(1) -> refused -2
                force(-2) -> refused -2
                force(MIN) -> refused -2
                force(MAX) -> refused -2
                force(0) -> NONE
                """);
        Edges.sentence(I, "-2 there is no such .. SCAR", """
                heal(0) -> refused -2
                scar(0, 0, 0)
                heal(1) -> refused -2
                heal(-1) -> refused -2
                heal(MIN) -> refused -2
                heal(MAX) -> refused -2
                heal(0) -> 0
                """);
        Edges.sentence(I, "-2 there is no such .. COPY", """
                touch(0, 0, 0) -> refused -2
                copy()
                touch(1, 0, 0) -> refused -2
                touch(-1, 0, 0) -> refused -2
                touch(MIN, 0, 0) -> refused -2
                touch(MAX, 0, 0) -> refused -2
                touch(0, 0, 0) -> 0
                """);
        Edges.sentence(I, "-2 there is no such .. CLAIMANT", """
                claimant(0, 1, 2, NONE) -> refused -2
                claim(0, 1, 2) -> refused -2
                claimant(NONE, 1, 5, NONE) -> 0
                claimant(1, 1, 2, NONE) -> refused -2
                claimant(MAX, 1, 2, NONE) -> refused -2
                claim(1, 1, 2) -> refused -2
                claim(-1, 1, 2) -> refused -2
                claim(MIN, 1, 2) -> refused -2
                claim(MAX, 0, 2) -> refused -2
                claim(0, 0, 2) -> 5
                """);
        Edges.sentence(I, "-2 there is no such .. LAYER", """
                painter(1, 0)
                forge(1, 0, 0) -> refused -2
                forge(0, 0, 0) -> refused -2
                paint(0)
                forge(0, 0, 0) -> refused -2
                forge(2, 0, 0) -> refused -2
                forge(-1, 0, 0) -> refused -2
                forge(MIN, 0, 0) -> refused -2
                forge(MAX, 0, 0) -> refused -2
                forge(1, 0, 0) -> 1
                """);
        Edges.sentence(I, "-2 there is no such .. IMAGE", """
                back(0) -> refused -2
                back(1) -> refused -2
                image(1) -> 0
                back(0) -> refused -2
                back(1) -> 0
                """);
    }

    private static void order() {
        Edges.sentence(I, "The first of these in that order: -1 ahead of -2", """
                err(0, 3, 0) -> refused -1
                err(0, 0, 7) -> refused -1
                touch(0, 12, 0) -> refused -1
                touch(0, 0, 10) -> refused -1
                forge(1, 12, 0) -> refused -1
                forge(1, 0, 10) -> refused -1
                claimant(0, 100, 101, NONE) -> refused -1
                claimant(0, 5, 5, NONE) -> refused -1
                claimant(0, 5, 151, NONE) -> refused -1
                claimant(0, 5, 9, 6) -> refused -1
                claimant(0, 5, 9, -2) -> refused -1
                claim(0, 2, 5) -> refused -1
                claim(0, -1, 5) -> refused -1
                claim(0, 0, 151) -> refused -1
                claim(0, 1, 6) -> refused -1
                claim(0, 1, -2) -> refused -1
                back(2) -> refused -1
                back(-1) -> refused -1
                """);
        Edges.sentence(I, "The first of these in that order: -1 ahead of -5",
                Edges.each(0, 4, "painter(1, 0) -> #"),
                "painter(0, 0) -> refused -1\npainter(1, 100) -> refused -1\npainter(1, 0) -> refused -5",
                Edges.each(0, 5, "scar(0, 0, 0) -> #"),
                "scar(12, 0, 0) -> refused -1\nscar(0, 100, 0) -> refused -1",
                "scar(0, 0, 10) -> refused -1\nscar(0, 0, 0) -> refused -5",
                Edges.each(0, 7, "claimant(NONE, 0, 1, NONE) -> #"), """
                claimant(-2, 0, 1, NONE) -> refused -1
                claimant(NONE, 100, 101, NONE) -> refused -1
                claimant(NONE, 0, 0, NONE) -> refused -1
                claimant(NONE, 0, 1, 6) -> refused -1
                claimant(NONE, 0, 1, NONE) -> refused -5
                """);
        Edges.sentence(I, "The first of these in that order: -2 ahead of -3 and of -5",
                Edges.each(0, 7, "claimant(NONE, 0, 1, NONE) -> #"), """
                claimant(8, 0, 1, NONE) -> refused -2
                painter(1, 0)
                15 times paint(0)
                rules bars
                paint(1) -> refused -2
                paint(0) -> refused -3
                force(NONE)
                paint(0)
                paint(1) -> refused -2
                paint(0) -> refused -5
                """);
        Edges.sentence(I, "The first of these in that order: -3 ahead of -5", """
                painter(1, 0)
                16 times paint(0)
                paint(0) -> refused -5
                orders paint by 0 -> refused -5 by 0
                orders paint likest -> refused -5 by 0
                rules bars if year = 17
                paint(0) -> refused -3
                orders paint by 0 -> refused -3 by 0
                orders paint likest -> refused -3 by 0
                orders paint cheapest -> refused -3 by 0
                orders paint by 1 -> refused -3 by 0
                force(NONE)
                terms(4, 1)
                paint(0) -> refused -3
                orders paint by 0 -> refused -3 by 0
                orders paint likest -> refused -3 by 0
                terms(4, 0)
                paint(0) -> refused -5
                """,
                "6 times copy()",
                "orders touch 6 at 0 with 0; copy -> refused -3 by 0",
                "orders copy; touch 6 at 0 with 0 -> refused -5 by 0");
    }

    private static void noRoom() {
        Edges.sentence(I, "-5 no room",
                Edges.each(0, 5, "copy() -> #"),
                "copy() -> refused -5\norders copy -> refused -5 by 0\nburn() -> 6\ncopy() -> 0",
                Edges.each(0, 5, "law looks # -> #"),
                "law looks 1 -> refused -5");
    }

    private static void texts() {
        Edges.sentence(I, "-6 a TEXT, a ROW that can't be", """
                row() -> refused -6
                law() -> refused -6
                orders() -> refused -6
                law look 1 -> fault 0
                orders look 1 -> fault 0
                row 200 -> 0
                """);
        Edges.sentence(I, "-3 it can't be by what stands", """
                scrape() -> refused -3
                painter(1, 0)
                rules bars
                paint(0) -> refused -3
                force(NONE)
                terms(4, 1)
                paint(0)
                paint(0) -> refused -3
                scrape() -> 0
                scrape() -> refused -3
                orders scrape -> refused -3 by 0
                """);
    }
}
