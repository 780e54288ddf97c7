/** Terms IV, sentence by sentence: centuries and their draws, rows, images. */
public final class EdgesOfTermsIV {
    private static final String IV = "Terms IV";
    private static final String FIVE = Edges.each(1, 5, "painter(#, 0)");

    public static void main(String[] args) {
        centuries();
        draws();
        rows();
        imagesKeep();
        imagesLeaveOut();
        imagesStay();
        Edges.close();
    }

    private static String drawn(int... tones) {
        StringBuilder all = new StringBuilder();
        for (int cell = 0; cell < tones.length; cell++) {
            all.append("drawn(").append(cell).append(") -> ").append(tones[cell]).append('\n');
        }
        return all.toString();
    }

    private static String painted(int... years) {
        StringBuilder all = new StringBuilder();
        for (int painter = 0; painter < years.length; painter++) {
            all.append("drawn(").append(100 + painter).append(") -> ").append(years[painter]).append('\n');
        }
        return all.toString();
    }

    private static void centuries() {
        Edges.sentence(IV, "A CENTURY with a SEED .. (0 .. 1,000,000)", FIVE, """
                century(-1, 1) -> refused -1
                century(1000001, 1) -> refused -1
                century(MIN, 1) -> refused -1
                century(MAX, 1) -> refused -1
                century(0, 40) -> 5
                """,
                drawn(6, 5, 6, 6, 5, 7, 6, 7, 6, 6, 5, 6), painted(14, 7, 4, 6, 9),
                "century(1000000, 40) -> 2",
                drawn(6, 6, 6, 6, 6, 6, 7, 5, 6, 6, 6, 6), painted(6, 8, 13, 7, 6));
        Edges.sentence(IV, "n YEARS, on paper", FIVE, """
                century(0, -1) -> refused -1
                century(0, 41) -> refused -1
                century(0, MIN) -> refused -1
                century(0, MAX) -> refused -1
                first(3, 9)
                century(7, 0) -> 29
                """,
                drawn(0, 0, 0, 9, 0, 0, 0, 0, 0, 0, 0, 0), painted(0, 0, 0, 0, 0), """
                century(7, 40)
                count(3) -> 0
                tone(0, 3) -> 9
                tone(1, 3) -> NONE
                """);
        Edges.sentence(IV, "n YEARS: those behind what is SEEN", "painter(1, 0)", """
                16 times paint(0)
                century(12345, 40) -> 6
                """,
                drawn(7, 8, 7, 6, 8, 7, 8, 7, 7, 6, 7, 6), "drawn(100) -> 40",
                "rules looks 2; looks 1 if year=16\ncentury(5, 0) -> 24");
    }

    private static void draws() {
        String five = "rules looks 5\nrow 5 5 5 5 5 5 5 5 5 5 5 5\n";
        Edges.sentence(IV, "a DRAW of m: s becomes (s times 1103 and 12345) modulo 1,000,003, it is s modulo m",
                FIVE, five,
                "century(0, 1) -> 6", drawn(6, 6, 6, 5, 5, 6, 6, 5, 4, 5, 5, 5), painted(1, 0, 0, 0, 0),
                "century(1, 1) -> 3", drawn(5, 5, 5, 5, 6, 5, 5, 5, 4, 5, 5, 4), painted(0, 0, 0, 1, 0),
                "century(1000000, 1) -> 5", drawn(5, 5, 5, 5, 4, 5, 4, 5, 4, 6, 5, 4), painted(0, 1, 0, 0, 0));
        Edges.sentence(IV, "modulo 1,000,003: 895 times 1103 and 12345 is 999,530, of 896 it comes round to 630",
                FIVE, "rules looks 9",
                "century(895, 1) -> 98", drawn(1, 1, 1, 1, 1, 1, 1, 0, 1, 1, 0, 1), painted(1, 0, 0, 0, 0),
                "century(896, 1) -> 94", drawn(1, 1, 1, 2, 1, 2, 1, 1, 1, 1, 1, 1), painted(1, 0, 0, 0, 0));
        Edges.sentence(IV, "modulo 1,000,003: of 870,345 it is 0, of 327,279 it is 1,000,002",
                FIVE, "rules looks 9",
                "century(870345, 1) -> 91", drawn(2, 2, 2, 2, 1, 1, 2, 2, 1, 0, 1, 1), painted(1, 0, 0, 0, 0),
                "century(327279, 1) -> 74", drawn(3, 3, 3, 3, 3, 3, 3, 3, 3, 2, 2, 3), painted(0, 0, 1, 0, 0));
        Edges.sentence(IV, "Each YEAR a DRAW of PAINTERS",
                "painter(1, 0)\npainter(2, 0)\ncentury(3, 2) -> 5",
                drawn(1, 2, 2, 1, 2, 2, 2, 1, 1, 2, 3, 2), painted(2, 0),
                "rules bars\nterms(4, 3)\ncentury(3, 2) -> 5",
                "new\npainter(1, 0)", five, "century(0, 2) -> 4",
                drawn(6, 5, 4, 5, 5, 5, 5, 5, 5, 6, 6, 5), painted(2));
        Edges.sentence(IV, "(without: none is painted)", """
                first(4, 7)
                century(0, 40) -> 67
                """,
                drawn(0, 0, 0, 0, 7, 0, 0, 0, 0, 0, 0, 0),
                "drawn(100) -> NONE\nrules looks 7\ncentury(0, 40) -> 77");
        Edges.sentence(IV, "CELL by CELL a DRAW of 8: 0: one darker, 1: one lighter than he would paint it: less, more by one",
                "painter(1, 0)", five,
                "century(0, 1) -> 6", drawn(6, 6, 6, 5, 5, 6, 6, 5, 4, 5, 5, 5));
        Edges.sentence(IV, "one darker .. (0 .. 9)",
                "painter(1, 0)\nrules looks 0\ncentury(0, 1) -> 5", drawn(1, 1, 1, 0, 0, 1, 1, 0, 0, 0, 0, 0));
        Edges.sentence(IV, "one lighter .. (0 .. 9)",
                "painter(1, 0)\nrules looks 9\nrow 9 9 9 9 9 9 9 9 9 9 9 9\ncentury(0, 1) -> 1",
                drawn(9, 9, 9, 9, 9, 9, 9, 9, 8, 9, 9, 9));
        Edges.sentence(IV, "than he would paint it", """
                painter(1, 0)
                painter(2, 0)
                painter(9, 0)
                err(1, 0, 4)
                err(1, 2, 2)
                err(2, 1, 6)
                err(2, 2, 0)
                century(7, 3) -> 10
                """,
                drawn(3, 4, 2, 3, 3, 1, 3, 2, 1, 3, 2, 1), painted(0, 1, 2));
    }

    private static void rows() {
        Edges.sentence(IV, "A ROW: the TAPE's bytes: TONES of CELLS 0, 1 .. of LAYER 0", """
                row 0 1 2 3 4 5 6 7 8 9 8 7 -> 12
                tone(0, 0) -> 0
                tone(0, 9) -> 9
                tone(0, 11) -> 7
                flakes() -> 0
                row 5 -> 1
                tone(0, 0) -> 5
                tone(0, 1) -> 1
                row 1 1 1 1 1 1 1 1 1 1 1 -> 11
                tone(0, 10) -> 1
                tone(0, 11) -> 7
                """);
        Edges.sentence(IV, "(all YEARS painted are gone then)", """
                painter(1, 0)
                3 times paint(0)
                row 3 -> 1
                count(3) -> 0
                tone(0, 0) -> 3
                tone(0, 1) -> 0
                tone(1, 0) -> NONE
                scrape() -> refused -3
                paint(0)
                row 200 -> 0
                count(3) -> 0
                """);
        Edges.sentence(IV, "others leave a CELL as it was; those .. are FLAKES", """
                row 7 7 7 7 7 7 -> 6
                row 9 10 48 57 255 0 -> 2
                tone(0, 0) -> 9
                tone(0, 1) -> 7
                tone(0, 2) -> 7
                tone(0, 3) -> 7
                tone(0, 4) -> 7
                tone(0, 5) -> 0
                flakes() -> 4
                row 128 -> 0
                flakes() -> 1
                """);
        Edges.sentence(IV, "those and bytes beyond CELL 11 are FLAKES", """
                row 1 1 1 1 1 1 1 1 1 1 1 2 -> 12
                flakes() -> 0
                row 1 1 1 1 1 1 1 1 1 1 1 3 4 -> 12
                flakes() -> 1
                tone(0, 11) -> 3
                row 1 1 1 1 1 1 1 1 1 1 1 10 4 99 -> 11
                flakes() -> 3
                tone(0, 11) -> 3
                20 times feed(0, 0, 0, 0, 0)
                row() -> 12
                flakes() -> 388
                """);
    }

    private static final String MADE = """
            painter(2, 9)
            err(0, 1, 5)
            terms(0, 31)
            terms(1, 4)
            terms(2, 7)
            terms(3, 50)
            terms(4, 1)
            scar(3, 2, 4)
            scar(4, 0, 6)
            first(8, 3)
            law looks 6; lets 2 -> 0
            law ranks born -> 1
            force(0)
            paint(0)
            copy()
            touch(0, 5, 9)
            claimant(NONE, 3, 90, 0)
            """;
    private static final String CHANGED = """
            painter(3, 3)
            err(0, 1, 0)
            terms(0, 1)
            terms(1, 1)
            terms(2, 1)
            terms(3, 1)
            terms(4, 0)
            heal(0)
            scar(5, 1, 1)
            force(1)
            law looks 1 -> 2
            forge(1, 2, 7)
            paint(1)
            touch(0, 5, 1)
            copy()
            claim(0, 0, 80)
            claim(0, 1, 4)
            claimant(0, 5, 9, NONE)
            """;
    private static final String ASKED = """
            count(0) -> 1
            of(0, 0) -> 2
            of(0, 1) -> 9
            of(0, 3) -> 5
            count(13) -> 31
            count(14) -> 4
            count(15) -> 7
            count(16) -> 50
            count(17) -> 1
            count(2) -> 2
            looks(3, 2, 0) -> 4
            looks(4, 0, 0) -> 6
            looks(5, 1, 0) -> 6
            count(1) -> 2
            count(12) -> 0
            looks(0, 0, 1) -> 2
            force(1) -> 0
            stands(0, 5, 1) -> 3
            count(3) -> 1
            layer(1, 1) -> 0
            tone(0, 8) -> 3
            tone(1, 2) -> 2
            tone(2, 2) -> NONE
            count(4) -> 1
            touch(0, 5, 9) -> 9
            count(5) -> 1
            born(0, 2) -> 90
            born(0, 3) -> 0
            """;

    private static void imagesKeep() {
        Edges.sentence(IV, "IMAGES 0, 1 keep all .. BACK to one all that it keeps is as it was then",
                MADE, "image(0) -> 0", CHANGED, "back(0) -> 0", ASKED);
        Edges.sentence(IV, "IMAGES 0, 1: the other one as well",
                MADE, "image(1) -> 0", CHANGED, "back(0) -> refused -2\nback(1) -> 0", ASKED);
        Edges.sentence(IV, "IMAGES 0, 1 keep all: also what is gone since", MADE, """
                image(0)
                first(0, 1)
                burn()
                2 times heal(0)
                force(NONE)
                back(0)
                """, ASKED);
        Edges.sentence(IV, "IMAGES 0, 1 keep all: also who painted each LAYER", """
                3 times painter(1, 0)
                2 times paint(2)
                image(0)
                2 times scrape()
                paint(0)
                paint(1)
                image(1)
                back(0)
                layer(1, 1) -> 2
                layer(2, 1) -> 2
                back(1)
                layer(1, 1) -> 0
                layer(2, 1) -> 1
                back(0)
                terms(4, 1)
                paint(1)
                scrape() -> 1
                scrape() -> 2
                """);
        Edges.sentence(IV, "IMAGES 0, 1 keep all: also that there was nothing", """
                image(0)
                """, MADE, """
                back(0) -> 0
                count(0) -> 0
                count(1) -> 0
                count(2) -> 0
                count(3) -> 0
                count(4) -> 0
                count(5) -> 0
                count(12) -> NONE
                count(13) -> 20
                count(14) -> 3
                count(15) -> 0
                count(16) -> 100
                count(17) -> 0
                tone(0, 8) -> 0
                law looks 8 -> 0
                looks(0, 0, 0) -> 2
                painter(1, 0) -> 0
                of(0, 3) -> 3
                copy() -> 0
                touch(0, 5, 0) -> 0
                claimant(NONE, 0, 1, NONE) -> 0
                """);
        Edges.sentence(IV, "IMAGES 0, 1: no other", """
                image(-1) -> refused -1
                image(2) -> refused -1
                image(MIN) -> refused -1
                image(MAX) -> refused -1
                back(-1) -> refused -1
                back(2) -> refused -1
                back(MIN) -> refused -1
                back(MAX) -> refused -1
                image(0) -> 0
                image(1) -> 0
                back(0) -> 0
                back(1) -> 0
                """);
    }

    private static void imagesLeaveOut() {
        Edges.sentence(IV, "IMAGES 0, 1 keep all but the TAPE", """
                image(0)
                tape 'looks 6'
                image(1)
                end(5)
                back(0)
                count(6) -> 5
                back(1)
                count(6) -> 5
                law() -> refused -6
                tape 'looks 6'
                back(0)
                law() -> 0
                force(0)
                looks(0, 0, 0) -> 6
                back(1)
                count(6) -> 0
                """);
        Edges.sentence(IV, "IMAGES 0, 1 keep all but .. FAULT", """
                image(0)
                law looks ! -> fault 6
                image(1)
                back(0)
                fault() -> 6
                law looks 1 -> 0
                fault() -> NONE
                back(1)
                fault() -> NONE
                """);
        Edges.sentence(IV, "IMAGES 0, 1 keep all but .. FLAKES", """
                image(0)
                row 10 11 12 -> 0
                image(1)
                back(0)
                flakes() -> 3
                row 10 -> 0
                back(1)
                flakes() -> 1
                """);
        Edges.sentence(IV, "IMAGES 0, 1 keep all but .. where ORDERS stopped", """
                image(0)
                orders copy; copy; scrape -> refused -3 by 2
                image(1)
                back(0)
                stopped() -> 2
                orders copy -> 1
                stopped() -> NONE
                back(1)
                stopped() -> NONE
                """);
        Edges.sentence(IV, "IMAGES 0, 1 keep all but .. the latest CENTURY", """
                image(0)
                painter(1, 0)
                painter(1, 0)
                first(0, 7)
                century(0, 0)
                image(1)
                back(0)
                drawn(0) -> 7
                drawn(100) -> 0
                drawn(101) -> 0
                drawn(102) -> NONE
                century(0, 0)
                drawn(0) -> 0
                drawn(100) -> NONE
                back(1)
                drawn(0) -> 0
                drawn(100) -> NONE
                """);
        Edges.sentence(IV, "how many calls were REFUSED (IMAGES do not keep that)", """
                image(0)
                first(12, 0) -> refused -1
                paint(0) -> refused -2
                scrape() -> refused -3
                row() -> refused -6
                6 times copy()
                copy() -> refused -5
                image(1)
                back(0)
                count(7) -> 1
                count(8) -> 1
                count(9) -> 1
                count(10) -> 1
                count(11) -> 1
                first(12, 0) -> refused -1
                back(1)
                count(7) -> 2
                count(10) -> 1
                """);
    }

    private static void imagesStay() {
        Edges.sentence(IV, "(IMAGES stay)", """
                first(0, 3)
                image(0)
                first(0, 4)
                image(1)
                first(0, 5)
                back(0)
                tone(0, 0) -> 3
                first(0, 6)
                back(0)
                tone(0, 0) -> 3
                back(1)
                tone(0, 0) -> 4
                back(0)
                tone(0, 0) -> 3
                first(0, 9)
                image(0)
                first(0, 1)
                back(0)
                tone(0, 0) -> 9
                back(1)
                tone(0, 0) -> 4
                """);
        Edges.sentence(IV, "(IMAGES stay): also their LAWS", """
                image(0)
                rules looks 5
                image(1)
                back(0)
                rules looks 7
                law looks 8 -> 1
                looks(0, 0, 0) -> 7
                back(1)
                looks(0, 0, 0) -> 5
                force(1) -> refused -2
                back(0)
                count(1) -> 0
                looks(0, 0, 0) -> 2
                """);
    }
}
