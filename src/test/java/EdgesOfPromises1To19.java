/** Promises 1 to 19, sentence by sentence: laying, telling, the tape, laws and orders. */
public final class EdgesOfPromises1To19 {
    public static void main(String[] args) {
        newObject();
        first();
        painters();
        terms();
        scars();
        tape();
        rows();
        laws();
        orders();
        fault();
        stopped();
        force();
        looks();
        asks();
        Edges.close();
    }

    private static void newObject() {
        Edges.sentence("Promise 1, a new object", "No PAINTERS, COPIES, CLAIMANTS", """
                count(0) -> 0
                count(4) -> 0
                count(5) -> 0
                of(0, 0) -> NONE
                asks(0, 0, 0) -> NONE
                paint(0) -> refused -2
                near(0) -> NONE
                near(NONE) -> 0
                like(0, NONE) -> NONE
                like(NONE, NONE) -> 0
                touch(0, 0, 0) -> refused -2
                born(0, 0) -> NONE
                stands(0, 0, 0) -> NONE
                claim(0, 1, 0) -> refused -2
                line(0, NONE) -> 0
                undoing(NONE) -> 0
                plan(0, 1, 2) -> 0
                drift(0, 1, 2) -> 0
                """);
        Edges.sentence("Promise 1, a new object", "what else there is at first", """
                status() -> 0
                fault() -> NONE
                stopped() -> NONE
                flakes() -> 0
                drawn(0) -> NONE
                drawn(100) -> NONE
                count(1) -> 0
                count(2) -> 0
                count(3) -> 0
                count(6) -> 0
                count(7) -> 0
                count(8) -> 0
                count(9) -> 0
                count(10) -> 0
                count(11) -> 0
                count(12) -> NONE
                count(13) -> 20
                count(14) -> 3
                count(15) -> 0
                count(16) -> 100
                count(17) -> 0
                unlawful() -> NONE
                broke() -> NONE
                skipped() -> NONE
                money(0) -> 0
                money(1) -> NOTHING
                ways() -> 1
                trees() -> 1
                vacant() -> 100
                back(0) -> refused -2
                back(1) -> refused -2
                """);
    }

    private static void first() {
        Edges.sentence("Promise 2, first", "A CELL of LAYER 0 gets a TONE (..): what it had", """
                first(0, 9) -> 0
                first(0, 4) -> 9
                first(0, 4) -> 4
                first(11, 1) -> 0
                first(11, 0) -> 1
                tone(0, 0) -> 4
                tone(0, 1) -> 0
                tone(0, 11) -> 0
                """);
        Edges.sentence("Promise 2, first", "(all YEARS painted are gone then)", """
                painter(1, 0)
                2 times paint(0)
                first(3, 5) -> 0
                count(3) -> 0
                tone(1, 0) -> NONE
                tone(0, 3) -> 5
                scrape() -> refused -3
                paint(0)
                first(3, 5) -> 5
                count(3) -> 0
                terms(4, 3)
                paint(0)
                """);
        Edges.sentence("Promise 2, first", "-1: then no YEAR is gone", """
                painter(1, 0)
                2 times paint(0)
                first(-1, 5) -> refused -1
                first(12, 5) -> refused -1
                first(3, -1) -> refused -1
                first(3, 10) -> refused -1
                first(MIN, MIN) -> refused -1
                first(MAX, MAX) -> refused -1
                count(3) -> 2
                """);
    }

    private static void painters() {
        Edges.sentence("Promise 3, painter", "A PAINTER: the number. -1; -5", """
                painter(0, 0) -> refused -1
                painter(1, 100) -> refused -1
                painter(1, 0) -> 0
                painter(10, 0) -> refused -1
                painter(9, 99) -> 1
                painter(1, -1) -> refused -1
                painter(2, 2) -> 2
                painter(2, 2) -> 3
                painter(2, 2) -> 4
                painter(2, 2) -> refused -5
                painter(0, 2) -> refused -1
                painter(2, 100) -> refused -1
                count(0) -> 5
                """);
        Edges.sentence("Promise 4, err", "The ERROR and 3 (0 .. 6) of a PAINTER at a KIND: what it was. -1; -2",
                "err(0, 0, 0) -> refused -2\nerr(0, 3, 0) -> refused -1\nerr(0, 0, 7) -> refused -1",
                "painter(1, 0)\npainter(1, 0)", """
                err(1, 0, 0) -> 3
                err(1, 0, 6) -> 0
                err(1, 0, 6) -> 6
                err(1, 2, 5) -> 3
                err(0, 2, 1) -> 3
                err(1, 2, 4) -> 5
                err(1, 3, 4) -> refused -1
                err(1, -1, 4) -> refused -1
                err(1, 0, 7) -> refused -1
                err(1, 0, -1) -> refused -1
                err(2, 0, 0) -> refused -2
                err(-1, 0, 0) -> refused -2
                err(2, 3, 0) -> refused -1
                err(-1, 0, 7) -> refused -1
                of(0, 2) -> 3
                of(0, 4) -> 1
                of(1, 3) -> 3
                """);
        Edges.sentence("Promise 5, of", "Of a PAINTER REACH (what 0), PRICE (1), ERRORS and 3 (2, 3, 4). NONE",
                "of(0, 0) -> NONE\npainter(7, 65)\npainter(8, 66)\nerr(1, 0, 0)\nerr(1, 1, 6)\nerr(1, 2, 5)", """
                of(0, 0) -> 7
                of(0, 1) -> 65
                of(0, 2) -> 3
                of(0, 4) -> 3
                of(1, 0) -> 8
                of(1, 1) -> 66
                of(1, 2) -> 0
                of(1, 3) -> 6
                of(1, 4) -> 5
                of(1, 5) -> NONE
                of(1, -1) -> NONE
                of(1, MIN) -> NONE
                of(1, MAX) -> NONE
                of(2, 0) -> NONE
                of(-1, 0) -> NONE
                of(MIN, 0) -> NONE
                of(MAX, 0) -> NONE
                """);
    }

    private static void terms() {
        Edges.sentence("Promise 6, terms", "A TERM: what it was. -1", """
                terms(0, 99) -> 20
                terms(0, 0) -> 99
                terms(0, 100) -> refused -1
                terms(0, -1) -> refused -1
                terms(1, 5) -> 3
                terms(1, 0) -> 5
                terms(1, 6) -> refused -1
                terms(1, -1) -> refused -1
                terms(2, 9) -> 0
                terms(2, 0) -> 9
                terms(2, 10) -> refused -1
                terms(2, -1) -> refused -1
                terms(3, 999) -> 100
                terms(3, 0) -> 999
                terms(3, 1000) -> refused -1
                terms(3, -1) -> refused -1
                terms(4, 3) -> 0
                terms(4, 0) -> 3
                terms(4, 4) -> refused -1
                terms(4, -1) -> refused -1
                terms(5, 0) -> refused -1
                terms(-1, 0) -> refused -1
                terms(MAX, 0) -> refused -1
                terms(MIN, 0) -> refused -1
                """);
    }

    private static void scars() {
        Edges.sentence("Promise 7, scar", "A SCAR: its number. -1 (YEAR 0 .. 99); -5", """
                scar(0, 0, 1) -> 0
                scar(0, 99, 2) -> 1
                scar(0, -1, 1) -> refused -1
                scar(0, 100, 1) -> refused -1
                scar(0, MIN, 1) -> refused -1
                scar(0, MAX, 1) -> refused -1
                scar(12, 0, 1) -> refused -1
                scar(-1, 0, 1) -> refused -1
                scar(0, 0, 10) -> refused -1
                scar(0, 0, -1) -> refused -1
                looks(0, 98, 0) -> 1
                looks(0, 99, 0) -> 2
                scar(11, 50, 9) -> 2
                scar(11, 50, 0) -> 3
                scar(11, 50, 0) -> 4
                scar(11, 50, 0) -> 5
                scar(11, 50, 0) -> refused -5
                scar(11, 100, 0) -> refused -1
                count(2) -> 6
                """);
        Edges.sentence("Promise 8, heal", "A SCAR heals, those behind it move up: how many are left. -2", """
                heal(0) -> refused -2
                scar(0, 5, 1)
                scar(1, 5, 2)
                scar(0, 5, 3)
                scar(2, 5, 4)
                heal(4) -> refused -2
                heal(-1) -> refused -2
                heal(MIN) -> refused -2
                heal(MAX) -> refused -2
                heal(1) -> 3
                looks(1, 5, 0) -> 2
                looks(0, 5, 0) -> 3
                looks(2, 5, 0) -> 4
                heal(3) -> refused -2
                heal(1) -> 2
                looks(0, 5, 0) -> 1
                looks(2, 5, 0) -> 4
                heal(1) -> 1
                looks(2, 5, 0) -> 2
                heal(0) -> 0
                looks(0, 5, 0) -> 2
                heal(0) -> refused -2
                """);
        Edges.sentence("Promise 8, heal", "those behind it move up: of alike YEARS that told later", """
                scar(0, 5, 1)
                scar(0, 5, 2)
                scar(0, 5, 3)
                heal(0) -> 2
                looks(0, 5, 0) -> 3
                heal(1) -> 1
                looks(0, 5, 0) -> 2
                scar(0, 5, 4) -> 1
                looks(0, 5, 0) -> 4
                """);
    }

    private static void tape() {
        Edges.sentence("Promise 9, feed", "Twenty bytes come behind the TAPE, four of each number, the highest first: how many it has", """
                feed(16909060, 84281096, 151521024, 0, 0) -> 20
                end(12) -> 12
                row() -> 12
                tone(0, 0) -> 1
                tone(0, 1) -> 2
                tone(0, 2) -> 3
                tone(0, 3) -> 4
                tone(0, 4) -> 5
                tone(0, 5) -> 6
                tone(0, 6) -> 7
                tone(0, 7) -> 8
                tone(0, 8) -> 9
                tone(0, 9) -> 8
                tone(0, 10) -> 7
                tone(0, 11) -> 0
                feed(0, 0, 0, 0, 0) -> 20
                feed(0, 0, 0, 0, 0) -> 40
                count(6) -> 40
                """);
        Edges.sentence("Promise 9, feed", "four of each number: of one below 0, too", """
                first(0, 5)
                first(1, 5)
                feed(MIN, -1, -16777216, 0, 0) -> 20
                end(12) -> 12
                row() -> 6
                flakes() -> 6
                tone(0, 0) -> 5
                tone(0, 1) -> 0
                """);
        Edges.sentence("Promise 9, feed", "behind the TAPE", """
                feed(1819242347, 1931488032, 0, 0, 0) -> 20
                end(6) -> 6
                feed(926232890, 0, 0, 0, 0) -> 26
                end(8) -> 8
                law() -> 0
                force(0)
                looks(0, 0, 0) -> 9
                """);
        Edges.sentence("Promise 9, feed", "NONE, if there would be more than 400",
                Edges.each(1, 19, "feed(#, 0, 0, 0, 0)"), """
                feed(0, 0, 0, 0, 0) -> 400
                feed(0, 0, 0, 0, 0) -> NONE
                count(6) -> 400
                end(399) -> 399
                feed(0, 0, 0, 0, 0) -> NONE
                end(381) -> 381
                feed(0, 0, 0, 0, 0) -> NONE
                count(6) -> 381
                end(380) -> 380
                feed(0, 0, 0, 0, 0) -> 400
                status() -> 0
                """);
        Edges.sentence("Promise 10, end", "The TAPE has its first n bytes alone: n. NONE, if it has not so many, or n is below 0", """
                end(0) -> 0
                end(1) -> NONE
                feed(16909060, 84281096, 0, 0, 0) -> 20
                end(20) -> 20
                end(21) -> NONE
                end(-1) -> NONE
                end(MIN) -> NONE
                end(MAX) -> NONE
                count(6) -> 20
                end(3) -> 3
                end(4) -> NONE
                count(6) -> 3
                row() -> 3
                tone(0, 2) -> 3
                tone(0, 3) -> 0
                end(1) -> NONE
                end(0) -> 0
                status() -> 0
                """);
    }

    private static void rows() {
        Edges.sentence("Promise 11, row", "A ROW, the TAPE is empty then: how many CELLS were told", """
                row 5 -> 1
                count(6) -> 0
                row 1 2 3 4 5 6 7 8 9 0 1 2 -> 12
                row 1 2 3 4 5 6 7 8 9 0 1 2 3 -> 12
                row 10 10 -> 0
                count(6) -> 0
                row 10 0 10 9 -> 2
                tone(0, 1) -> 0
                tone(0, 3) -> 9
                """);
        Edges.sentence("Promise 11, row", "-6 the TAPE is empty", """
                row() -> refused -6
                painter(1, 0)
                paint(0)
                tape '%05'
                end(0) -> 0
                row() -> refused -6
                count(3) -> 1
                row 3 -> 1
                row() -> refused -6
                fault() -> NONE
                """);
        Edges.sentence("Promise 12, flakes", "How many FLAKES the latest row() had that was not REFUSED (0 ahead of any)", """
                flakes() -> 0
                row() -> refused -6
                flakes() -> 0
                row 10 11 5 -> 1
                flakes() -> 2
                row() -> refused -6
                flakes() -> 2
                row 9 -> 1
                flakes() -> 0
                row 9 9 9 9 9 9 9 9 9 9 9 9 9 9 -> 12
                flakes() -> 2
                """);
    }

    private static void laws() {
        Edges.sentence("Promise 13, law", "The TAPE, which is empty then, becomes a LAW: its number", """
                law looks 1 -> 0
                count(6) -> 0
                law looks 2 -> 1
                law looks 3 -> 2
                count(1) -> 3
                count(12) -> NONE
                force(1)
                looks(0, 0, 0) -> 2
                law looks 4 -> 3
                count(12) -> 1
                looks(0, 0, 0) -> 2
                """);
        Edges.sentence("Promise 13, law", "-5 (ahead of reading it; the TAPE is empty then, too)",
                Edges.each(0, 5, "law looks # -> #"), """
                law looks 6 -> refused -5
                count(6) -> 0
                law looks ! -> refused -5
                count(6) -> 0
                fault() -> NONE
                law() -> refused -5
                law '   ' -> refused -5
                fault() -> NONE
                orders looks -> fault 0
                law looks ! -> refused -5
                fault() -> 0
                count(1) -> 6
                """);
        Edges.sentence("Promise 13, law", "-6 (blanks alone: FAULT at the end)", """
                law() -> refused -6
                fault() -> 0
                law ' ' -> fault 1
                law '    ' -> fault 4
                count(6) -> 0
                count(1) -> 0
                law looks -> fault 5
                count(6) -> 0
                law looks 1 1 -> fault 8
                count(1) -> 0
                law looks 1 -> 0
                """);
    }

    private static void orders() {
        Edges.sentence("Promise 14, orders", "ORDERS, the TAPE is empty then: how many were run", """
                painter(1, 0)
                orders paint by 0 times 3; copy if 1=2; scrape -> 4
                count(6) -> 0
                count(3) -> 2
                orders copy if 1=2 -> 0
                count(6) -> 0
                orders copy times 6 -> 6
                orders paint by 0 times 20 if years<16 -> 14
                orders scrape times 20 if years>0; paint likest times 16 -> 32
                count(1) -> 0
                """);
        Edges.sentence("Promise 14, orders", "-3 one can't be; -5 one has no room", """
                orders scrape -> refused -3 by 0
                count(6) -> 0
                orders paint by 0 -> refused -3 by 0
                orders paint likest -> refused -3 by 0
                orders touch 0 at 0 with 0 -> refused -3 by 0
                orders copy times 6; scrape -> refused -3 by 1
                orders copy times 7 -> refused -5 by 0
                count(6) -> 0
                orders copy times 6 -> 6
                orders copy -> refused -5 by 0
                painter(1, 0)
                orders paint by 0 times 17 -> refused -5 by 0
                orders paint by 0 times 16 -> 16
                orders paint by 0 -> refused -5 by 0
                orders paint likest -> refused -5 by 0
                orders paint cheapest -> refused -5 by 0
                orders paint by 1 -> refused -3 by 0
                count(3) -> 16
                """);
        Edges.sentence("Promise 14, orders", "-6 (as for law())", """
                orders() -> refused -6
                fault() -> 0
                orders '  ' -> fault 2
                count(6) -> 0
                orders copy; copy; ! -> fault 12
                count(4) -> 0
                count(6) -> 0
                orders scrape; copy copy -> fault 13
                orders copy -> 1
                """);
        Edges.sentence("Promise 14, orders", "-6: no ORDER is run, LAWS may be full",
                Edges.each(0, 5, "law looks # -> #"),
                "orders copy; copi -> fault 6\ncount(4) -> 0\norders copy -> 1\ncount(4) -> 1");
    }

    private static void fault() {
        Edges.sentence("Promise 15, fault", "FAULT of the latest law(), orders() that read a TEXT: its place; NONE without", """
                fault() -> NONE
                row() -> refused -6
                fault() -> NONE
                law ! -> fault 0
                law looks 1 -> 0
                fault() -> NONE
                law looks -> fault 5
                orders copy -> 1
                fault() -> NONE
                orders copy 1 -> fault 5
                row 3 -> 1
                fault() -> 5
                orders scrape -> refused -3 by 0
                fault() -> NONE
                orders 'copy ' -> 1
                law '' -> fault 0
                """);
        Edges.sentence("Promise 15, fault", "that read a TEXT: a law() without room read none",
                Edges.each(0, 5, "law looks # -> #"), """
                orders copy ! -> fault 5
                law looks ! -> refused -5
                fault() -> 5
                law looks 1 -> refused -5
                fault() -> 5
                """);
    }

    private static void stopped() {
        Edges.sentence("Promise 16, stopped", "Which ORDER of the latest orders() could not be. NONE", """
                stopped() -> NONE
                orders scrape -> refused -3 by 0
                orders copy -> 1
                stopped() -> NONE
                orders copy; scrape; copy -> refused -3 by 1
                law looks ! -> fault 6
                stopped() -> 1
                scrape() -> refused -3
                stopped() -> 1
                orders copy ! -> fault 5
                stopped() -> NONE
                """,
                "orders " + Edges.many("copy if 1=2", ";", 11) + ";scrape -> refused -3 by 11",
                "orders copy times 20 -> refused -5 by 0",
                "orders copy if 1=2 -> 0\nstopped() -> NONE");
    }

    private static void force() {
        Edges.sentence("Promise 17, force", "A LAW is in FORCE (NONE: none): which was. -2", """
                force(NONE) -> NONE
                force(0) -> refused -2
                force(-2) -> refused -2
                law looks 1 -> 0
                law looks 2 -> 1
                force(2) -> refused -2
                force(MIN) -> refused -2
                force(MAX) -> refused -2
                force(0) -> NONE
                force(2) -> refused -2
                count(12) -> 0
                force(1) -> 0
                force(1) -> 1
                looks(0, 0, 0) -> 2
                force(NONE) -> 1
                force(NONE) -> NONE
                looks(0, 30, 0) -> 5
                """);
    }

    private static void looks() {
        Edges.sentence("Promise 18, looks", "AGE in a YEAR 0 .. 99 (cell NONE)", """
                looks(NONE, 0, 0) -> 20
                looks(NONE, 99, 0) -> 119
                looks(NONE, 100, 0) -> NONE
                looks(NONE, -1, 0) -> NONE
                looks(NONE, MIN, 0) -> NONE
                looks(NONE, MAX, 0) -> NONE
                """);
        Edges.sentence("Promise 18, looks", "what a CELL LOOKS (what 0), how far it LETS (1). NONE", """
                rules looks year; lets cell
                looks(0, 0, 0) -> 0
                looks(0, 99, 0) -> 9
                looks(0, 8, 0) -> 8
                looks(0, 8, 1) -> 0
                looks(9, 8, 1) -> 9
                looks(11, 99, 1) -> 9
                looks(0, 100, 0) -> NONE
                looks(0, -1, 0) -> NONE
                looks(0, 100, 1) -> NONE
                looks(0, -1, 1) -> NONE
                looks(0, MIN, 0) -> NONE
                looks(0, MAX, 0) -> NONE
                looks(12, 0, 0) -> NONE
                looks(-2, 0, 0) -> NONE
                looks(MIN, 0, 1) -> NONE
                looks(MAX, 0, 1) -> NONE
                looks(0, 0, 2) -> NONE
                looks(0, 0, -1) -> NONE
                looks(0, 0, MIN) -> NONE
                looks(0, 0, MAX) -> NONE
                """);
    }

    private static void asks() {
        Edges.sentence("Promise 19, asks", "What a PAINTER ASKS in a YEAR 0 .. 99 (what 0), whether he is BARRED (1: 1, 0). NONE",
                "asks(0, 0, 0) -> NONE\nasks(0, 0, 1) -> NONE\npainter(1, 11)\npainter(1, 12)", """
                rules asks 5*year if year>50; bars if year=99 and painter=1
                asks(0, 0, 0) -> 11
                asks(1, 0, 0) -> 12
                asks(1, 50, 0) -> 12
                asks(1, 51, 0) -> 255
                asks(0, 99, 0) -> 495
                asks(0, 99, 1) -> 0
                asks(1, 99, 1) -> 1
                asks(1, 98, 1) -> 0
                asks(1, 0, 1) -> 0
                asks(0, 100, 0) -> NONE
                asks(0, -1, 0) -> NONE
                asks(0, 100, 1) -> NONE
                asks(0, -1, 1) -> NONE
                asks(0, MIN, 0) -> NONE
                asks(0, MAX, 0) -> NONE
                asks(2, 0, 0) -> NONE
                asks(-1, 0, 0) -> NONE
                asks(MIN, 0, 1) -> NONE
                asks(MAX, 0, 1) -> NONE
                asks(0, 0, 2) -> NONE
                asks(0, 0, -1) -> NONE
                asks(0, 0, MIN) -> NONE
                asks(0, 0, MAX) -> NONE
                """);
    }
}
