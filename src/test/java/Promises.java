/** Each promise by hand: ordinary calls, the edges that the document names, wrong numbers. */
public final class Promises {
    private static final int NONE = AgingPortrait.NONE;
    private static final int NOTHING = AgingPortrait.NOTHING;
    private static int wrong = 0;
    private static int promise = 0;

    public static void main(String[] args) {
        Laying.all();
        Telling.all();
        Painting.all();
        Planning.all();
        Copying.all();
        Ruling.all();
        Keeping.all();
        System.out.println(wrong == 0 ? "all answers are as due" : wrong + " are not as due");
        if (wrong != 0) {
            System.exit(1);
        }
    }

    private static void on(int number) {
        promise = number;
    }

    private static void due(String call, long got, long want) {
        if (got != want) {
            wrong++;
            System.out.println("promise " + promise + ": " + call + " answered " + got
                    + ", due is " + want);
        }
    }

    /** A call that must be refused by a code: it answers that, says so and counts it. */
    private static void refused(AgingPortrait x, String call, long got, int code) {
        due(call, got, code);
        due(call + ": status", x.status(), code);
    }

    /** A call that must not be refused. */
    private static void taken(AgingPortrait x, String call, long got, long want) {
        due(call, got, want);
        due(call + ": status", x.status(), 0);
    }

    private static AgingPortrait fresh() {
        return new AgingPortrait();
    }

    /** Puts a text on the tape, which must be empty. */
    private static AgingPortrait tell(AgingPortrait x, String text) {
        int[] bytes = new int[(text.length() + 19) / 20 * 20];
        for (int i = 0; i < bytes.length; i++) {
            bytes[i] = i < text.length() ? text.charAt(i) : ' ';
        }
        for (int i = 0; i < bytes.length; i += 20) {
            x.feed(word(bytes, i), word(bytes, i + 4), word(bytes, i + 8), word(bytes, i + 12),
                    word(bytes, i + 16));
        }
        x.end(text.length());
        return x;
    }

    private static int word(int[] bytes, int at) {
        return bytes[at] << 24 | bytes[at + 1] << 16 | bytes[at + 2] << 8 | bytes[at + 3];
    }

    /** Makes a law of the text and puts it in force; answers what law() answered. */
    private static int lawIn(AgingPortrait x, String text) {
        int law = tell(x, text).law();
        if (law >= 0) {
            x.force(law);
        }
        return law;
    }

    private static int run(AgingPortrait x, String text) {
        return tell(x, text).orders();
    }

    private static void row(AgingPortrait x, int... tones) {
        char[] bytes = new char[tones.length];
        for (int i = 0; i < tones.length; i++) {
            bytes[i] = (char) tones[i];
        }
        tell(x, new String(bytes)).row();
    }

    /** What a cell looks by a law, which must be one. */
    private static int looks(String law, int cell, int year) {
        AgingPortrait x = fresh();
        due("law of " + law, lawIn(x, law), 0);
        return x.looks(cell, year, 0);
    }

    /** Whether an if of a law holds of a cell in a year. */
    private static void holds(String test, int cell, int year, boolean so) {
        due("holds " + test, looks("looks 0; looks 1 if " + test, cell, year), so ? 1 : 0);
    }

    private static void lawFault(String text, int place) {
        AgingPortrait x = fresh();
        int got = tell(x, text).law();
        due("law " + text, got, place == NONE ? 0 : -6);
        due("fault of " + text, x.fault(), place);
    }

    private static void ordersFault(String text, int place) {
        AgingPortrait x = fresh();
        int got = run(x, text);
        if (place != NONE) {
            due("orders " + text, got, -6);
        } else {
            due("orders " + text + " read", got == -6 ? 1 : 0, 0);
        }
        due("fault of " + text, x.fault(), place);
    }

    /** A new object, pictures, painters, terms, scars, the tape. */
    private static final class Laying {
        static void all() {
            newObject();
            lastCalls();
            firsts();
            painters();
            terms();
            scars();
            tapes();
            rows();
        }

        static void newObject() {
            on(1);
            AgingPortrait x = fresh();
            int[] counts = {0, 0, 0, 0, 0, 0, 0, 0, 0, 0, 0, 0, NONE, 20, 3, 0, 100, 0};
            for (int what = 0; what < counts.length; what++) {
                due("count(" + what + ")", x.count(what), counts[what]);
            }
            for (int cell = 0; cell < 12; cell++) {
                due("tone(0, " + cell + ")", x.tone(0, cell), 0);
            }
            due("status", x.status(), 0);
            due("fault", x.fault(), NONE);
            due("stopped", x.stopped(), NONE);
            due("flakes", x.flakes(), 0);
        }

        /** The document speaks of 512 calls: the last ones answer as the first ones do. */
        static void lastCalls() {
            on(1);
            AgingPortrait x = fresh();
            for (int i = 1; i <= 510; i++) {
                due("call " + i, x.first(i % 12, i % 10), i <= 12 ? 0 : (i - 12) % 10);
            }
            due("call 511", x.first(0, 7), 504 % 10);
            due("call 512", x.tone(0, 0), 7);
            AgingPortrait y = fresh();
            y.image(0);
            for (int i = 2; i <= 508; i += 4) {
                y.feed(0x6c6f6f6b, 0x73203120, 0, 0, 0);
                y.end(7);
                due("a law, call " + (i + 2), y.law(), 0);
                due("its image back, call " + (i + 3), y.back(0), 0);
            }
            due("laws, call 510", y.count(1), 0);
            due("call 511", y.looks(0, 99, 0), 9);
            due("call 512", y.status(), 0);
        }

        static void firsts() {
            on(2);
            AgingPortrait x = fresh();
            taken(x, "first(3, 9)", x.first(3, 9), 0);
            taken(x, "first(3, 0)", x.first(3, 0), 9);
            taken(x, "first(11, 9)", x.first(11, 9), 0);
            refused(x, "first(12, 0)", x.first(12, 0), -1);
            refused(x, "first(-1, 0)", x.first(-1, 0), -1);
            refused(x, "first(0, 10)", x.first(0, 10), -1);
            refused(x, "first(0, -1)", x.first(0, -1), -1);
            due("refused", x.count(7), 4);
            x.painter(1, 0);
            x.paint(0);
            x.paint(0);
            taken(x, "first(11, 4) of layer 0", x.first(11, 4), 9);
            due("years are gone", x.count(3), 0);
            x.paint(0);
            x.first(12, 4);
            due("years stay when refused", x.count(3), 1);
        }

        static void painters() {
            on(3);
            AgingPortrait x = fresh();
            refused(x, "painter(0, 1)", x.painter(0, 1), -1);
            refused(x, "painter(10, 1)", x.painter(10, 1), -1);
            refused(x, "painter(1, -1)", x.painter(1, -1), -1);
            refused(x, "painter(1, 100)", x.painter(1, 100), -1);
            taken(x, "painter(1, 0)", x.painter(1, 0), 0);
            taken(x, "painter(9, 99)", x.painter(9, 99), 1);
            for (int i = 2; i < 5; i++) {
                taken(x, "painter " + i, x.painter(i, i), i);
            }
            refused(x, "a sixth", x.painter(1, 1), -5);
            refused(x, "a sixth that can't be", x.painter(0, 1), -1);
            due("painters", x.count(0), 5);
            on(4);
            taken(x, "err(0, 0, 6)", x.err(0, 0, 6), 3);
            taken(x, "err(0, 0, 0)", x.err(0, 0, 0), 6);
            taken(x, "err(0, 2, 1)", x.err(0, 2, 1), 3);
            refused(x, "err(0, 3, 0)", x.err(0, 3, 0), -1);
            refused(x, "err(0, -1, 0)", x.err(0, -1, 0), -1);
            refused(x, "err(0, 0, 7)", x.err(0, 0, 7), -1);
            refused(x, "err(0, 0, -1)", x.err(0, 0, -1), -1);
            refused(x, "err(5, 0, 0)", x.err(5, 0, 0), -2);
            refused(x, "err(-1, 0, 0)", x.err(-1, 0, 0), -2);
            refused(x, "err(5, 0, 7)", x.err(5, 0, 7), -1);
            on(5);
            int[] facts = {1, 0, 0, 3, 1};
            for (int what = 0; what < 5; what++) {
                due("of(0, " + what + ")", x.of(0, what), facts[what]);
            }
            due("of(1, 0)", x.of(1, 0), 9);
            due("of(1, 1)", x.of(1, 1), 99);
            due("of(1, 2)", x.of(1, 2), 3);
            due("of(0, 5)", x.of(0, 5), NONE);
            due("of(0, -1)", x.of(0, -1), NONE);
            due("of(5, 0)", x.of(5, 0), NONE);
            due("of(-1, 0)", x.of(-1, 0), NONE);
            due("of a painter not there", fresh().of(0, 0), NONE);
        }

        static void terms() {
            on(6);
            AgingPortrait x = fresh();
            int[] highest = {99, 5, 9, 999, 3};
            int[] had = {20, 3, 0, 100, 0};
            for (int what = 0; what < 5; what++) {
                taken(x, "terms(" + what + ", highest)", x.terms(what, highest[what]), had[what]);
                taken(x, "terms(" + what + ", 0)", x.terms(what, 0), highest[what]);
                refused(x, "terms too high", x.terms(what, highest[what] + 1), -1);
                refused(x, "terms below 0", x.terms(what, -1), -1);
                due("count", x.count(13 + what), 0);
            }
            refused(x, "terms(5, 0)", x.terms(5, 0), -1);
            refused(x, "terms(-1, 0)", x.terms(-1, 0), -1);
        }

        static void scars() {
            on(7);
            AgingPortrait x = fresh();
            taken(x, "scar(2, 5, 9)", x.scar(2, 5, 9), 0);
            taken(x, "scar(2, 8, 1)", x.scar(2, 8, 1), 1);
            taken(x, "scar(2, 8, 0)", x.scar(2, 8, 0), 2);
            taken(x, "scar(2, 7, 5)", x.scar(2, 7, 5), 3);
            due("looks ahead of it", x.looks(2, 4, 0), 2);
            due("looks from then on", x.looks(2, 5, 0), 9);
            due("looks on", x.looks(2, 6, 0), 9);
            due("looks later", x.looks(2, 7, 0), 5);
            due("of alike years that told later", x.looks(2, 8, 0), 0);
            due("ever after", x.looks(2, 99, 0), 0);
            due("another cell", x.looks(3, 8, 0), 2);
            refused(x, "scar(12, 0, 0)", x.scar(12, 0, 0), -1);
            refused(x, "scar(-1, 0, 0)", x.scar(-1, 0, 0), -1);
            refused(x, "scar(0, 100, 0)", x.scar(0, 100, 0), -1);
            refused(x, "scar(0, -1, 0)", x.scar(0, -1, 0), -1);
            refused(x, "scar(0, 0, 10)", x.scar(0, 0, 10), -1);
            refused(x, "scar(0, 0, -1)", x.scar(0, 0, -1), -1);
            taken(x, "scar(11, 99, 9)", x.scar(11, 99, 9), 4);
            taken(x, "scar(0, 0, 0)", x.scar(0, 0, 0), 5);
            refused(x, "a seventh", x.scar(0, 0, 0), -5);
            refused(x, "a seventh that can't be", x.scar(0, 0, 10), -1);
            lawIn(x, "looks 7");
            due("a scar goes ahead of the law", x.looks(0, 0, 0), 0);
            due("the law without", x.looks(1, 0, 0), 7);
            on(8);
            x.force(NONE);
            refused(x, "heal(6)", x.heal(6), -2);
            refused(x, "heal(-1)", x.heal(-1), -2);
            taken(x, "heal(2)", x.heal(2), 5);
            due("that told ahead", x.looks(2, 8, 0), 1);
            taken(x, "heal(1)", x.heal(1), 4);
            due("those behind moved up", x.looks(2, 8, 0), 5);
            taken(x, "heal(1)", x.heal(1), 3);
            due("the first", x.looks(2, 8, 0), 9);
            taken(x, "heal(0)", x.heal(0), 2);
            due("none of it", x.looks(2, 8, 0), 2);
            due("the others stay", x.looks(11, 99, 0), 9);
            taken(x, "heal(0)", x.heal(0), 1);
            taken(x, "heal(0)", x.heal(0), 0);
            refused(x, "heal(0) of none", x.heal(0), -2);
        }

        static void tapes() {
            on(9);
            AgingPortrait x = fresh();
            for (int i = 1; i <= 20; i++) {
                due("feed " + i, x.feed(0x01020304, 0x05060708, 0x090a0b0c, -1, 0), 20 * i);
            }
            due("feed beyond 400", x.feed(0, 0, 0, 0, 0), NONE);
            due("bytes", x.count(6), 400);
            on(10);
            due("end(401)", x.end(401), NONE);
            due("end(-1)", x.end(-1), NONE);
            due("end(400)", x.end(400), 400);
            due("end(381)", x.end(381), 381);
            on(9);
            due("no room for twenty", x.feed(0, 0, 0, 0, 0), NONE);
            due("bytes stay", x.count(6), 381);
            on(10);
            due("end(382)", x.end(382), NONE);
            due("end(12)", x.end(12), 12);
            due("bytes", x.count(6), 12);
            due("no status", x.status(), 0);
            on(9);
            due("row", x.row(), 9);
            for (int cell = 0; cell < 12; cell++) {
                due("byte " + cell, x.tone(0, cell), cell < 9 ? cell + 1 : 0);
            }
            on(10);
            due("end(0)", x.end(0), 0);
            due("end(1) of none", x.end(1), NONE);
        }

        static void rows() {
            on(11);
            AgingPortrait x = fresh();
            refused(x, "row of nothing", x.row(), -6);
            x.first(1, 5);
            x.painter(1, 1);
            x.paint(0);
            refused(x, "row of nothing", x.row(), -6);
            due("years stay", x.count(3), 1);
            taken(x, "row", tell(x, "" + (char) 9 + (char) 10 + (char) 0 + '9').row(), 2);
            due("years are gone", x.count(3), 0);
            due("the tape is empty", x.count(6), 0);
            due("told", x.tone(0, 0), 9);
            due("left", x.tone(0, 1), 5);
            due("told 0", x.tone(0, 2), 0);
            on(12);
            due("flakes", x.flakes(), 2);
            x.row();
            due("flakes of the latest that was not refused", x.flakes(), 2);
            on(11);
            row(x, 1, 2, 3, 4, 5, 6, 7, 8, 9, 0, 1, 2, 3, 200);
            due("the last cell", x.tone(0, 11), 2);
            on(12);
            due("flakes beyond the cells", x.flakes(), 2);
            row(x, 255);
            due("flakes", x.flakes(), 1);
            due("row of no tone", tell(x, "zz").row(), 0);
            due("status", x.status(), 0);
            row(x, 0);
            due("no flakes", x.flakes(), 0);
        }
    }

    /** Laws and orders: their language. */
    private static final class Telling {
        static void all() {
            laws();
            lawFaults();
            limits();
            sums();
            tests();
            words();
            orders();
            orderFaults();
            orderWords();
            stops();
            force();
        }

        static void laws() {
            on(13);
            AgingPortrait x = fresh();
            refused(x, "law of nothing", x.law(), -6);
            due("fault of nothing", x.fault(), 0);
            refused(x, "law of blanks", tell(x, "   ").law(), -6);
            due("fault of blanks", x.fault(), 3);
            due("the tape is empty", x.count(6), 0);
            taken(x, "law", tell(x, "looks 5").law(), 0);
            due("the tape is empty", x.count(6), 0);
            due("no fault", x.fault(), NONE);
            refused(x, "law", tell(x, "looks").law(), -6);
            for (int i = 1; i < 6; i++) {
                taken(x, "law", tell(x, "bars").law(), i);
            }
            due("laws", x.count(1), 6);
            tell(x, "looks !").law();
            refused(x, "a seventh, unread", tell(x, "looks !").law(), -5);
            due("the tape is empty", x.count(6), 0);
            due("it was not read", x.fault(), NONE);
            refused(x, "a seventh of nothing", x.law(), -5);
            due("nothing is in force", x.looks(0, 0, 0), 2);
        }

        static void lawFaults() {
            on(15);
            lawFault("looks 1", NONE);
            lawFault("  looks1;;", 9);
            lawFault("looks 1;", 8);
            lawFault("looks 1;  ", 10);
            lawFault("look 1", 0);
            lawFault("looks", 5);
            lawFault("bars 1", 5);
            lawFault("bars", NONE);
            lawFault("bars;bars", NONE);
            lawFault("bars if", 7);
            lawFault("bars if 1", 9);
            lawFault("bars if 1 <", 11);
            lawFault("bars if 1 < 2", NONE);
            lawFault("bars if 1 < 2 < 3", 14);
            lawFault("bars if 1 < 2 or", 16);
            lawFault("bars if 1 < 2 or 3 = 3 and not 4 > 5", NONE);
            lawFault("bars if not", 11);
            lawFault("bars if not not (1 = 1)", NONE);
            lawFault("bars if (1 = 1", 14);
            lawFault("bars if (1) = 1", 10);
            lawFault("bars if [1] = 1", NONE);
            lawFault("bars if ()", 9);
            lawFault("bars if 1 = 1)", 13);
            lawFault("looks 1 + ", 10);
            lawFault("looks 1 1", 8);
            lawFault("looks + 1", 6);
            lawFault("looks - 1", 6);
            lawFault("looks (1)", 6);
            lawFault("looks [1", 8);
            lawFault("looks [1)", 8);
            lawFault("looks 1 times 2", 8);
            lawFault("looks 1 or 2", 8);
            lawFault("looks 1000", NONE);
            lawFault("looks 1001", 6);
            lawFault("looks 99999999999999999999", 6);
            lawFault("looks 0001000", NONE);
            lawFault("looks years", 6);
            lawFault("looks Age", 6);
            lawFault("looks ageage", 6);
            lawFault("looks age2", 9);
            lawFault("looks 2age", 7);
            lawFault("looks\t2", 5);
            lawFault("looks cell+age*year-painter/price+mood-claimant+born+near+children", NONE);
            lawFault("lets 1; asks 2; ranks 3; looks 4; bars if 5 = 5", NONE);
            lawFault("looks 1 if if", 11);
            lawFault("looks 1 if 1 = 1 if 1 = 1", 17);
            lawFault("looks 1 \u00e9", 8);
        }

        static void limits() {
            on(15);
            lawFault(many("bars", ";", 12), NONE);
            lawFault(many("bars", ";", 13), 60);
            lawFault(many("bars", ";", 12) + ";", 60);
            lawFault(many("bars", ";", 12) + "; !", 61);
            lawFault("looks " + many("1", "+", 50), NONE);
            lawFault("looks " + many("1", "+", 51), 106);
            lawFault("looks " + many("age", "+", 51), 206);
            lawFault("looks " + many("1", "+", 50) + "+!", 106);
            lawFault("looks " + many("1", "+", 50) + "; looks 1", 113);
            lawFault("looks " + many("1", "+", 48) + " if 1 = 2", NONE);
            lawFault("looks " + many("1", "+", 49) + " if 1 = 2", 111);
            lawFault("looks [[[[[[[[1]]]]]]]]", NONE);
            lawFault("looks [[[[[[[[[1]]]]]]]]]", 14);
            lawFault("bars if ((((((((1=1))))))))", NONE);
            lawFault("bars if (((((((((1=1)))))))))", 16);
            lawFault("bars if (((([[[[1]]]]=1))))", NONE);
            lawFault("bars if (((([[[[[1]]]]]=1))))", 16);
            lawFault("bars if (((([[[[1]]]]=[[[[1]]]]))))", NONE);
            lawFault("bars if " + many("not", " ", 90) + " 1=1", NONE);
            ordersFault(many("scrape", ";", 13), 84);
            ordersFault("paint by " + many("1", "+", 51), 109);
            ordersFault("paint by " + many("1", "+", 50), NONE);
            ordersFault("paint by " + many("tone 1", "+", 50), NONE);
            ordersFault("paint by " + many("tone 1", "+", 51), 359);
            ordersFault("paint by " + many("1", "+", 50) + " times 3", NONE);
            ordersFault("paint by [[[[[[[[[1]]]]]]]]]", 17);
        }

        private static String many(String piece, String between, int n) {
            StringBuilder all = new StringBuilder(piece);
            for (int i = 1; i < n; i++) {
                all.append(between).append(piece);
            }
            return all.toString();
        }

        static void sums() {
            on(18);
            due("2 + 3 * 2", looks("looks 2 + 3 * 2", 0, 0), 8);
            due("[2 + 3] * 1", looks("looks [2 + 1] * 2", 0, 0), 6);
            due("9 - 4 - 3", looks("looks 9 - 4 - 3", 0, 0), 2);
            due("8 / 4 / 2", looks("looks 8 / 4 / 2", 0, 0), 1);
            due("8 / [4 / 2]", looks("looks 8 / [4 / 2]", 0, 0), 4);
            due("7 / 2 * 2", looks("looks 7 / 2 * 2", 0, 0), 6);
            due("cut towards 0", looks("looks [0 - 7] / 2 + 5", 0, 0), 2);
            due("below", looks("looks 1 - 5", 0, 0), 0);
            due("above", looks("looks 1000", 0, 0), 9);
            due("by 0", looks("looks 3; looks 1 / 0", 0, 0), 3);
            due("by 0 alone", looks("looks 1 / [age - age]", 0, 0), 2);
            due("to a milliard", looks("looks 1000 * 1000 * 1000 / 1000 / 1000 - 995", 0, 0), 5);
            due("beyond", looks("looks 3; looks [1000 * 1000 * 1000 + 1] * 0", 0, 0), 3);
            due("beyond below", looks("looks 3; looks [0 - 1000 * 1000 * 1000 - 1] * 0", 0, 0), 3);
            due("just", looks("looks 3; looks [0 - 1000 * 1000 * 1000] * 0", 0, 0), 0);
            due("far beyond", looks("looks 3; looks 1000 * 1000 * 1000 * 1000 * 0", 0, 0), 3);
            due("the last that holds", looks("looks 1; looks 2; looks 3 if 1 = 2; lets 4", 0, 0), 2);
            due("none holds", looks("looks 1 if 1 = 2", 0, 0), 2);
            AgingPortrait x = fresh();
            lawIn(x, "lets cell; lets 0 - 1 if cell = 1; lets 77 if cell = 2; looks 9 if cell = 3");
            due("lets 0", x.looks(0, 0, 1), 0);
            due("lets below", x.looks(1, 0, 1), 0);
            due("lets above", x.looks(2, 0, 1), 9);
            due("lets 3", x.looks(3, 0, 1), 3);
            due("looks 3", x.looks(3, 0, 0), 9);
            lawIn(x, "lets 3 if cell = 5");
            due("lets without", x.looks(0, 0, 1), 9);
            due("lets with", x.looks(5, 0, 1), 3);
        }

        static void tests() {
            on(18);
            holds("1 < 2", 0, 0, true);
            holds("2 < 2", 0, 0, false);
            holds("2 > 1", 0, 0, true);
            holds("2 > 2", 0, 0, false);
            holds("2 = 2", 0, 0, true);
            holds("2 = 1", 0, 0, false);
            holds("not 2 = 1", 0, 0, true);
            holds("not not 2 = 1", 0, 0, false);
            holds("not (2 = 1 or 1 = 1)", 0, 0, false);
            holds("not 2 = 1 or 1 = 1", 0, 0, true);
            holds("not 1 = 1 or 1 = 1", 0, 0, true);
            holds("not 1 = 1 and 1 = 2", 0, 0, false);
            holds("1 = 1 or 1 = 1 and 1 = 2", 0, 0, true);
            holds("(1 = 1 or 1 = 1) and 1 = 2", 0, 0, false);
            holds("1 = 2 and 1 = 1 or 1 = 1", 0, 0, true);
            holds("1 = 2 and (1 = 1 or 1 = 1)", 0, 0, false);
            holds("1 = 1 or 1 / 0 = 1", 0, 0, true);
            holds("1 / 0 = 1 or 1 = 1", 0, 0, false);
            holds("not (1 = 2 and 1 / 0 = 1)", 0, 0, true);
            holds("not 1 / 0 = 1", 0, 0, false);
            holds("1 = 1 and 1 / 0 = 1 or 1 = 1", 0, 0, false);
            holds("1 = 2 and 1 / 0 = 1 or 1 = 1", 0, 0, true);
            holds("1 = 2 or 1 = 2 or 1 = 1 or 1 / 0 = 1", 0, 0, true);
            holds("1 = 1 and 1 = 1 and 1 = 2 and 1 / 0 = 1 or 1 = 1", 0, 0, true);
            holds("1000 * 1000 * 1000 + 1 > 0", 0, 0, false);
            holds("1 + 1 = 4 - 2", 0, 0, true);
        }

        static void words() {
            on(18);
            holds("cell = 7", 7, 0, true);
            holds("cell = 7", 6, 0, false);
            holds("age = 25", 0, 5, true);
            holds("year = 5", 0, 5, true);
            holds("mood = 0", 0, 5, true);
            for (String word : new String[] {"painter", "price", "claimant", "born", "near", "children"}) {
                holds(word + " = 0 - 1", 3, 5, true);
            }
            AgingPortrait x = fresh();
            x.terms(2, 7);
            lawIn(x, "looks mood; lets 1 if mood = 7; asks mood; ranks mood");
            x.painter(1, 5);
            x.claimant(NONE, 0, 9, NONE);
            due("mood of a cell", x.looks(0, 0, 0), 7);
            due("mood of lets", x.looks(0, 0, 1), 1);
            due("mood of a painter", x.asks(0, 0, 0), 7);
            due("mood of a claimant", x.stands(0, 0, 1), 7);
            AgingPortrait y = fresh();
            y.painter(3, 8);
            y.painter(3, 9);
            y.claimant(NONE, 3, 9, NONE);
            on(19);
            lawIn(y, "asks painter * 100 + price + age * 10; bars if painter = 1 and year = 2");
            due("asks", y.asks(1, 2, 0), 100 + 9 + 220);
            due("barred", y.asks(1, 2, 1), 1);
            due("not barred", y.asks(1, 3, 1), 0);
            due("not he", y.asks(0, 2, 1), 0);
            lawIn(y, "asks 5 - cell - claimant - born - near - children");
            due("what is not named", y.asks(0, 0, 0), 10);
            lawIn(y, "asks 0 - 5 if painter = 0; asks 1000 if painter = 1");
            due("asks below", y.asks(0, 0, 0), 0);
            due("asks above", y.asks(1, 0, 0), 999);
            lawIn(y, "asks 5 if painter = 1; looks 3");
            due("his price", y.asks(0, 0, 0), 8);
            due("the law's", y.asks(1, 0, 0), 5);
            due("looks of no painter", y.looks(0, 0, 0), 3);
            due("asks(2, 0, 0)", y.asks(2, 0, 0), NONE);
            due("asks(-1, 0, 0)", y.asks(-1, 0, 0), NONE);
            due("asks(0, 100, 0)", y.asks(0, 100, 0), NONE);
            due("asks(0, -1, 0)", y.asks(0, -1, 0), NONE);
            due("asks(0, 99, 0)", y.asks(0, 99, 0), 8);
            due("asks(0, 0, 2)", y.asks(0, 0, 2), NONE);
            due("asks(0, 0, -1)", y.asks(0, 0, -1), NONE);
            lawIn(y, "bars if claimant > 0 - 1");
            due("a painter is no claimant", y.asks(0, 0, 1), 0);
            on(48);
            due("a claimant is", y.stands(0, 5, 2), 1);
            on(18);
            due("looks(-2, 0, 0)", y.looks(-2, 0, 0), NONE);
            due("looks(12, 0, 0)", y.looks(12, 0, 0), NONE);
            due("looks(0, 100, 0)", y.looks(0, 100, 0), NONE);
            due("looks(0, -1, 0)", y.looks(0, -1, 0), NONE);
            due("looks(NONE, 100, 0)", y.looks(NONE, 100, 0), NONE);
            due("looks(0, 0, 2)", y.looks(0, 0, 2), NONE);
            due("looks(0, 0, -1)", y.looks(0, 0, -1), NONE);
            due("looks(11, 99, 1)", y.looks(11, 99, 1), 9);
            y.terms(0, 99);
            y.terms(1, 5);
            due("age at most", y.looks(NONE, 99, 0), 199);
            due("age", y.looks(NONE, 33, 0), 198);
            due("age 34", y.looks(NONE, 34, 0), 199);
            y.force(NONE);
            due("looks at most", y.looks(0, 99, 0), 9);
            due("looks of 99", y.looks(0, 0, 0), 9);
            y.terms(1, 0);
            due("younger", y.looks(NONE, 10, 0), 79);
            due("looks of 79", y.looks(0, 10, 0), 7);
            due("age at least", y.looks(NONE, 60, 0), 0);
            y.terms(1, 2);
            due("as old", y.looks(NONE, 60, 0), 99);
        }

        static void orders() {
            on(14);
            AgingPortrait x = fresh();
            refused(x, "orders of nothing", x.orders(), -6);
            due("fault", x.fault(), 0);
            refused(x, "orders of blanks", run(x, "  "), -6);
            due("fault", x.fault(), 2);
            x.painter(1, 20);
            x.painter(2, 10);
            taken(x, "paint by 0", run(x, "paint by 0"), 1);
            due("the tape is empty", x.count(6), 0);
            due("painted", x.tone(1, 0), 1);
            taken(x, "paint likest", run(x, "paint likest"), 1);
            due("one of as good, the cheaper", x.layer(2, 1), 1);
            taken(x, "scrape", run(x, "scrape times 2"), 2);
            taken(x, "cheapest", run(x, "paint cheapest times 3"), 3);
            due("years", x.count(3), 3);
            due("by", x.layer(3, 1), 1);
            taken(x, "copy", run(x, "copy times 2; touch 1 at 5 with 9 times 1"), 3);
            due("copies", x.count(4), 2);
            due("touched", x.like(0, 1), 1);
            due("touched to", x.touch(1, 5, 9), 9);
            taken(x, "none wanted", run(x, "copy times 5 if 1 = 2; copy if 1 / 0 = 1"), 0);
            due("none run", x.count(4), 2);
            taken(x, "each time asked", run(x, "copy times 20 if copies < 5"), 3);
            taken(x, "not asked for sums", run(x, "touch 9 at 99 with 1 / 0 if 1 = 2"), 0);
            due("laws stay out", x.count(1), 0);
        }

        static void orderFaults() {
            on(15);
            ordersFault("paint", 5);
            ordersFault("paint 1", 6);
            ordersFault("paint by", 8);
            ordersFault("paint by 1;", 11);
            ordersFault("looks 1", 0);
            ordersFault("copy times", 10);
            ordersFault("copy times 0", 11);
            ordersFault("copy times 21", 11);
            ordersFault("copy times 20 if 1 = 2", NONE);
            ordersFault("copy times 01 if 1 = 2", NONE);
            ordersFault("copy times years", 11);
            ordersFault("copy if 1 = 2 times 2", 14);
            ordersFault("copy copy", 5);
            ordersFault("touch 1 at 2", 12);
            ordersFault("touch 1 with 2", 8);
            ordersFault("touch 1 at 2 with", 17);
            ordersFault("touch 1 at 2 with 3 times 2 if 1 = 2", NONE);
            ordersFault("paint by tone", 13);
            ordersFault("paint by tone 12", 14);
            ordersFault("paint by tone 11", NONE);
            ordersFault("paint by tone11+tone0", NONE);
            ordersFault("paint by tone age", 14);
            ordersFault("paint by [tone 1] ]", 18);
            ordersFault("paint by year", 9);
            ordersFault("paint by cell", 9);
            ordersFault("paint by mood", 9);
            ordersFault("paint by years+unlike+money+copies+age+done", NONE);
            ordersFault("paint by 1001", 9);
            ordersFault("scrape 1", 7);
            ordersFault("paint likest cheapest", 13);
        }

        static void orderWords() {
            on(14);
            AgingPortrait x = fresh();
            x.painter(1, 30);
            x.first(4, 7);
            taken(x, "years", run(x, "paint by 0 times 20 if years < 3"), 3);
            taken(x, "age", run(x, "paint by 0 times 20 if age < 25"), 2);
            due("years", x.count(3), 5);
            taken(x, "money", run(x, "paint by 0 times 20 if money < 420"), 1);
            due("money", x.money(6), 420);
            taken(x, "unlike", run(x, "copy if unlike = 0; scrape times 6; copy if unlike = 27"), 8);
            due("years", x.count(3), 0);
            taken(x, "copies", run(x, "copy times 9 if copies < 4"), 2);
            taken(x, "tone", run(x, "touch 0 at tone 4 with tone 4 + 1"), 1);
            due("touched", x.touch(0, 7, 0), 8);
            taken(x, "done", run(x, "touch 0 at done with done + 1 times 9"), 9);
            due("each time counts", x.touch(0, 0, 0), 1);
            due("each time counts", x.touch(0, 8, 0), 9);
            taken(x, "done over orders", run(x, "copy if 1 = 2; copy; touch 0 at 0 with done"), 2);
            due("those not run don't count", x.touch(0, 0, 0), 1);
            AgingPortrait y = fresh();
            y.painter(1, 30);
            y.painter(9, 99);
            taken(y, "likest by one year", run(y, "paint likest"), 1);
            due("the far reaching", y.layer(1, 1), 1);
            lawIn(y, "lets 0; looks 4");
            taken(y, "cheapest that is lawful", run(y, "paint cheapest"), 1);
            due("the only lawful", y.layer(2, 1), 1);
            taken(y, "cheapest of two", run(y, "paint cheapest"), 1);
            due("the cheap", y.layer(3, 1), 0);
        }

        static void stops() {
            on(14);
            AgingPortrait x = fresh();
            x.painter(1, 30);
            lawIn(x, "bars if painter = 0 and year = 3; looks 3");
            on(16);
            due("stopped", x.stopped(), NONE);
            on(14);
            refused(x, "barred", run(x, "copy; paint by 0 times 3; copy"), -3);
            on(16);
            due("stopped", x.stopped(), 1);
            due("no fault", x.fault(), NONE);
            due("nothing painted", x.count(3), 0);
            due("nothing copied", x.count(4), 0);
            refused(x, "no text", run(x, "copy; copy copy"), -6);
            due("stopped of no text", x.stopped(), NONE);
            String[] bad = {"paint by 1", "paint by 0 - 1", "scrape", "touch 0 at 0 with 0",
                "copy; touch 0 at 12 with 0", "copy; touch 0 at 0 with 10", "copy; touch 1 at 0 with 0",
                "copy; touch 0 at 0 - 1 with 0", "copy; touch 0 at 0 with 0 - 1", "paint by 1 / 0",
                "copy; touch 0 - 1 at 0 with 0", "copy; touch 0 at 0 with 1 / 0",
                "paint by 0 times 2; paint likest", "paint by 0 times 2; paint cheapest",
                "copy; paint by 1000 * 1000 * 1000 * 1000 * 0"};
            for (String text : bad) {
                refused(x, text, run(x, text), -3);
                due("stopped: " + text, x.stopped(), text.indexOf(';') < 0 ? 0 : 1);
                due("rolled back: " + text, x.count(3) + x.count(4), 0);
            }
            refused(x, "no room", run(x, "paint by 0 times 2; copy times 7"), -5);
            due("stopped", x.stopped(), 1);
            due("rolled back", x.count(3) + x.count(4), 0);
            taken(x, "six", run(x, "copy times 6"), 6);
            due("stopped by none", x.stopped(), NONE);
            x.force(NONE);
            refused(x, "seventeen years", run(x, "paint by 0 times 17"), -5);
            due("rolled back", x.count(3), 0);
            taken(x, "sixteen years", run(x, "paint by 0 times 16"), 16);
            refused(x, "a seventeenth", run(x, "paint likest"), -5);
            refused(x, "a seventeenth by nobody", run(x, "paint by 4"), -3);
            x.terms(4, 1);
            refused(x, "a seventeenth by one who rests", run(x, "paint by 0"), -3);
            x.touch(5, 0, 3);
            refused(x, "touched and undone", run(x, "touch 5 at 0 with 9; scrape; scrape times 20"), -3);
            due("stopped", x.stopped(), 2);
            due("as it was", x.touch(5, 0, 3), 3);
            due("refused by -3", x.count(9), 2 + bad.length + 2);
            due("refused by -5", x.count(10), 3);
            due("refused by -6", x.count(11), 1);
            on(14);
            AgingPortrait y = fresh();
            y.painter(1, 1);
            y.terms(4, 2);
            refused(y, "he rests", run(y, "paint by 0; paint by 0"), -3);
            y.painter(1, 1);
            refused(y, "both rest", run(y, "paint likest times 3"), -3);
            taken(y, "two", run(y, "paint likest times 2"), 2);
        }

        static void force() {
            on(17);
            AgingPortrait x = fresh();
            refused(x, "force(0)", x.force(0), -2);
            refused(x, "force(-2)", x.force(-2), -2);
            taken(x, "force(NONE)", x.force(NONE), NONE);
            tell(x, "looks 4").law();
            tell(x, "looks 5").law();
            due("not by itself", x.looks(0, 0, 0), 2);
            taken(x, "force(1)", x.force(1), NONE);
            due("in force", x.looks(0, 0, 0), 5);
            taken(x, "force(0)", x.force(0), 1);
            due("in force", x.looks(0, 0, 0), 4);
            refused(x, "force(2)", x.force(2), -2);
            due("count(12)", x.count(12), 0);
            taken(x, "force(NONE)", x.force(NONE), 0);
            due("none in force", x.looks(0, 0, 0), 2);
        }
    }

    /** Painting, layers, money, who painted, what was first. */
    private static final class Painting {
        static void all() {
            paints();
            brushes();
            layers();
            moneys();
            looksThrough();
            firstTones();
        }

        static void paints() {
            on(20);
            AgingPortrait x = fresh();
            refused(x, "paint(0) of none", x.paint(0), -2);
            x.painter(1, 10);
            refused(x, "paint(1)", x.paint(1), -2);
            refused(x, "paint(-1)", x.paint(-1), -2);
            taken(x, "paint(0)", x.paint(0), 12);
            for (int i = 2; i <= 16; i++) {
                taken(x, "paint(0)", x.paint(0), 0);
            }
            due("sixteen", x.count(3), 16);
            refused(x, "a seventeenth", x.paint(0), -5);
            lawIn(x, "bars");
            refused(x, "barred ahead of no room", x.paint(0), -3);
            refused(x, "nobody ahead of it", x.paint(4), -2);
            x.force(NONE);
            x.terms(4, 1);
            refused(x, "rests", x.paint(0), -3);
            x.painter(2, 10);
            refused(x, "another, without room", x.paint(1), -5);
            on(21);
            for (int i = 16; i >= 1; i--) {
                taken(x, "scrape", x.scrape(), 0);
                due("years", x.count(3), i - 1);
            }
            refused(x, "scrape of none", x.scrape(), -3);
            on(20);
            x.terms(4, 3);
            taken(x, "paint(1)", x.paint(1), 0);
            refused(x, "a year behind", x.paint(1), -3);
            taken(x, "paint(0)", x.paint(0), 0);
            refused(x, "two behind", x.paint(1), -3);
            x.painter(9, 0);
            x.painter(9, 0);
            x.paint(2);
            refused(x, "three behind", x.paint(1), -3);
            x.paint(3);
            taken(x, "four behind", x.paint(1), 0);
            refused(x, "his rest", x.paint(3), -3);
            x.terms(4, 0);
            taken(x, "without rest", x.paint(3), 0);
            on(21);
            taken(x, "scrape", x.scrape(), 3);
            taken(x, "scrape", x.scrape(), 1);
            on(20);
            lawIn(x, "bars if year = 6");
            taken(x, "in year 5", x.paint(1), 0);
            refused(x, "in year 6", x.paint(1), -3);
        }

        static void brushes() {
            on(20);
            AgingPortrait x = fresh();
            x.painter(3, 0);
            x.err(0, 0, 0);
            x.err(0, 1, 6);
            x.err(0, 2, 4);
            row(x, 0, 1, 2, 3, 4, 5, 6, 7, 8, 9, 9, 0);
            lawIn(x, "looks 5");
            int[] want = {0, 7, 6, 2, 8, 6, 2, 8, 6, 3, 9, 4};
            due("paint(0)", x.paint(0), 5 + 2 + 1 + 3 + 3 + 1 + 3 + 3 + 1 + 2 + 4 + 1);
            for (int cell = 0; cell < 12; cell++) {
                on(22);
                due("tone(1, " + cell + ")", x.tone(1, cell), want[cell]);
            }
            due("tone(0, 9)", x.tone(0, 9), 9);
            due("tone(2, 0)", x.tone(2, 0), NONE);
            due("tone(-1, 0)", x.tone(-1, 0), NONE);
            due("tone(0, 12)", x.tone(0, 12), NONE);
            due("tone(0, -1)", x.tone(0, -1), NONE);
            on(20);
            AgingPortrait y = fresh();
            y.painter(9, 0);
            y.err(0, 2, 6);
            lawIn(y, "looks year * 3 + cell");
            due("paint(0)", y.paint(0), 3 + 1 + 0 + 0);
            due("its own year", y.tone(1, 0), 3);
            due("off by his error", y.tone(1, 2), 8);
            due("9 at most", y.tone(1, 8), 9);
        }

        static void layers() {
            on(23);
            AgingPortrait x = fresh();
            x.painter(1, 10);
            x.painter(9, 7);
            lawIn(x, "looks year + 3; lets cell; asks price + year if painter = 0");
            x.paint(0);
            x.paint(1);
            x.paint(0);
            due("unlike of 0", x.layer(0, 0), 36);
            due("unlike of 1", x.layer(1, 0), 36);
            due("unlike of 2", x.layer(2, 0), 0);
            due("unlike of 3", x.layer(3, 0), 0);
            due("who of 0", x.layer(0, 1), NONE);
            due("who of 1", x.layer(1, 1), 0);
            due("who of 2", x.layer(2, 1), 1);
            due("asks of 0", x.layer(0, 2), 0);
            due("asks of 1", x.layer(1, 2), 11);
            due("asks of 2", x.layer(2, 2), 7);
            due("asks of 3", x.layer(3, 2), 13);
            due("far of 0", x.layer(0, 3), 0);
            due("far of 2", x.layer(2, 3), NONE);
            due("layer(4, 0)", x.layer(4, 0), NONE);
            due("layer(-1, 0)", x.layer(-1, 0), NONE);
            due("layer(0, 4)", x.layer(0, 4), NONE);
            due("layer(0, -1)", x.layer(0, -1), NONE);
            on(24);
            due("unlawful", x.unlawful(), 0);
            row(x, 3, 3, 3, 3, 3, 3, 3, 3, 3, 3, 3, 0);
            due("lawful", x.unlawful(), NONE);
            x.first(2, 0);
            due("unlawful", x.unlawful(), 0);
            x.first(2, 1);
            due("as far as it lets", x.unlawful(), NONE);
            x.paint(0);
            x.forge(1, 3, 8);
            due("forged", x.unlawful(), 1);
            on(23);
            due("far of 1", x.layer(1, 3), 3);
            due("unlike of 1", x.layer(1, 0), 2 + 4 + 3);
            on(24);
            due("without law", fresh().unlawful(), NONE);
        }

        static void moneys() {
            on(25);
            AgingPortrait x = fresh();
            x.painter(1, 90);
            x.painter(1, 99);
            due("money(0)", x.money(0), 0);
            due("money(1)", x.money(1), NOTHING);
            due("money(-1)", x.money(-1), NOTHING);
            x.paint(0);
            x.paint(1);
            due("money(1)", x.money(1), 10);
            due("money(2)", x.money(2), 11);
            on(26);
            due("never", x.broke(), NONE);
            x.terms(3, 95);
            due("money(1)", x.money(1), 5);
            due("money(2)", x.money(2), 1);
            due("never", x.broke(), NONE);
            x.terms(3, 94);
            due("money(2)", x.money(2), -1);
            due("broke behind 2", x.broke(), 2);
            x.terms(3, 0);
            due("broke behind 1", x.broke(), 1);
            on(25);
            lawIn(x, "asks year * 100");
            due("as the law tells now", x.money(2), -300);
            due("money(1)", x.money(1), -100);
            due("money(0)", x.money(0), 0);
        }

        static void looksThrough() {
            on(39);
            AgingPortrait x = fresh();
            x.painter(1, 0);
            x.painter(2, 0);
            x.painter(3, 0);
            lawIn(x, "looks 3; bars if painter = 1");
            x.paint(2);
            x.paint(0);
            due("who(0)", x.who(0), NONE);
            due("who(1)", x.who(1), 4);
            due("who(2)", x.who(2), 7);
            due("who(3)", x.who(3), NONE);
            due("who(-1)", x.who(-1), NONE);
            x.forge(1, 0, 2);
            due("who(1) forged", x.who(1), 0);
            due("who(2) ahead of it forged", x.who(2), 7);
            for (int cell = 0; cell < 12; cell++) {
                x.forge(1, cell, 2);
            }
            due("a barred one", x.who(1), 2);
            on(41);
            due("skipped", x.skipped(), NONE);
            x.forge(2, 0, 2);
            due("skipped", x.skipped(), 2);
            x.forge(1, 11, 0);
            due("skipped", x.skipped(), 1);
            due("skipped of none", fresh().skipped(), NONE);
            on(40);
            taken(x, "forge(2, 0, 9)", x.forge(2, 0, 9), 2);
            taken(x, "forge(2, 11, 0)", x.forge(2, 11, 0), 3);
            due("forged", x.tone(2, 0), 9);
            due("who painted it", x.layer(2, 1), 0);
            due("years stay", x.count(3), 2);
            refused(x, "forge(0, 0, 0)", x.forge(0, 0, 0), -2);
            refused(x, "forge(3, 0, 0)", x.forge(3, 0, 0), -2);
            refused(x, "forge(-1, 0, 0)", x.forge(-1, 0, 0), -2);
            refused(x, "forge(3, 12, 0)", x.forge(3, 12, 0), -1);
            refused(x, "forge(1, -1, 0)", x.forge(1, -1, 0), -1);
            refused(x, "forge(1, 0, 10)", x.forge(1, 0, 10), -1);
            refused(x, "forge(1, 0, -1)", x.forge(1, 0, -1), -1);
            on(42);
            AgingPortrait y = fresh();
            y.painter(1, 0);
            y.painter(2, 0);
            y.painter(3, 0);
            lawIn(y, "looks 3 + year * 2");
            y.paint(2);
            due("3 = 1 + 2 = 2 + 1", y.missing(1, 1), 2);
            due("3 = 1 + 1 + 1", y.missing(1, 2), 1);
            due("missing(0, 1)", y.missing(0, 1), NONE);
            due("missing(2, 1)", y.missing(2, 1), NONE);
            due("missing(-1, 1)", y.missing(-1, 1), NONE);
            due("missing(1, 0)", y.missing(1, 0), NONE);
            due("missing(1, 3)", y.missing(1, 3), NONE);
            for (int cell = 0; cell < 12; cell++) {
                y.forge(1, cell, 5);
            }
            due("5: 2 + 3, 3 + 2, 3 + 3", y.missing(1, 1), 3);
            due("5: 27 but 1 + 1 + 1, 1 + 1 + 2 thrice", y.missing(1, 2), 23);
            lawIn(y, "bars; looks 5");
            due("barred or not", y.missing(1, 1), 3);
            y.forge(1, 7, 4);
            due("no row", y.missing(1, 2), 0);
        }

        static void firstTones() {
            on(43);
            AgingPortrait x = fresh();
            due("was(3) unpainted", x.was(3), 1);
            due("was(12)", x.was(12), NONE);
            due("was(-1)", x.was(-1), NONE);
            on(44);
            due("ways unpainted", x.ways(), 1);
            x.painter(2, 0);
            lawIn(x, "looks 9; looks 5 if cell < 6");
            x.paint(0);
            x.paint(0);
            on(43);
            due("seen 4", x.was(0), 1);
            due("seen 4 of 9", x.was(11), 1);
            x.paint(0);
            due("seen 5: 0 .. 9 but those too far", x.was(0), 0x3ff);
            due("seen 6 of 9", x.was(11), 1);
            on(44);
            due("ways", x.ways(), 1000000);
            x.forge(3, 0, 9);
            on(43);
            due("none", x.was(0), 0);
            on(44);
            due("no way", x.ways(), 0);
            AgingPortrait y = fresh();
            y.painter(9, 0);
            y.paint(0);
            due("all ways", y.ways(), 1000000000000L);
        }
    }

    /** Rows of painters, drift, undoing. */
    private static final class Planning {
        static void all() {
            plans();
            solvent();
            drifts();
            undoings();
        }

        static void plan(AgingPortrait x, int by, int n, int... want) {
            for (int what = 0; what < want.length; what++) {
                due("plan(" + by + ", " + n + ", " + what + ")", x.plan(by, n, what), want[what]);
            }
            due("plan(" + by + ", " + n + ", -1)", x.plan(by, n, -1), NONE);
            due("plan beyond n", x.plan(by, n, 3 + n), NONE);
        }

        static void plans() {
            on(27);
            AgingPortrait x = fresh();
            plan(x, 0, 0, 24, 0, 1);
            plan(x, 0, 1, NONE, NONE, 0, NONE);
            plan(x, 1, 5, NONE, NONE, 0, NONE, NONE, NONE, NONE, NONE);
            x.painter(1, 30);
            x.painter(2, 50);
            x.painter(1, 20);
            plan(x, 0, 1, 0, 50, 1, 1);
            plan(x, 1, 1, 12, 20, 1, 2);
            plan(x, 0, 2, 0, 40, 1, 2, 2);
            plan(x, 1, 2, 0, 40, 1, 2, 2);
            lawIn(x, "lets 0 if year = 2");
            plan(x, 1, 2, 0, 40, 1, 2, 2);
            lawIn(x, "lets 0 if year = 1; asks 20 if painter = 0");
            plan(x, 1, 2, 0, 70, 2, 1, 0);
            plan(x, 0, 2, 0, 40, 4, 0, 0);
            lawIn(x, "lets 0 if year = 0");
            plan(x, 1, 1, 12, 20, 1, 2);
            lawIn(x, "lets 0; looks 9");
            plan(x, 1, 1, NONE, NONE, 0, NONE);
            plan(x, 0, 1, 84, 50, 1, 1);
            x.terms(4, 1);
            plan(x, 0, 2, 72, 70, 2, 1, 2);
            x.paint(1);
            plan(x, 0, 1, 72, 20, 1, 2);
            plan(x, 0, 2, 48, 70, 1, 2, 1);
            x.terms(4, 2);
            plan(x, 0, 3, 36, 100, 2, 0, 2, 1);
            x.terms(4, 3);
            plan(x, 0, 3, NONE, NONE, 0, NONE, NONE, NONE);
            x.terms(4, 0);
            lawIn(x, "bars if painter = year - 2");
            plan(x, 0, 1, 0, 20, 1, 2);
            due("plan(3, 0, 0)", x.plan(3, 0, 0), NONE);
            due("plan(-1, 0, 0)", x.plan(-1, 0, 0), NONE);
            due("plan(0, 6, 0)", x.plan(0, 6, 0), NONE);
            due("plan(0, -1, 0)", x.plan(0, -1, 0), NONE);
            due("nothing is painted", x.count(3), 1);
            due("no call of it is refused", x.status(), 0);
        }

        static void solvent() {
            on(27);
            AgingPortrait x = fresh();
            x.painter(2, 99);
            x.painter(1, 50);
            x.terms(3, 60);
            plan(x, 2, 1, 12, 50, 1, 1);
            plan(x, 2, 2, 0, 100, 1, 1, 1);
            lawIn(x, "looks 4");
            plan(x, 2, 2, 24, 100, 1, 1, 1);
            plan(x, 2, 5, 0, 250, 1, 1, 1, 1, 1, 1);
            plan(x, 2, 4, 0, 200, 1, 1, 1, 1, 1);
            plan(x, 2, 3, 12, 150, 1, 1, 1, 1);
            plan(x, 0, 3, 0, 199, 3, 0, 1, 1);
            x.terms(3, 83);
            plan(x, 2, 3, 0, 199, 2, 1, 0, 1);
            x.terms(3, 50);
            plan(x, 2, 1, 36, 50, 1, 1);
            x.terms(3, 49);
            plan(x, 2, 1, NONE, NONE, 0, NONE);
            plan(x, 2, 0, 48, 0, 1);
            x.paint(0);
            plan(x, 2, 0, 24, 0, 1);
            plan(x, 0, 1, 0, 99, 1, 0);
        }

        static void drifts() {
            on(28);
            AgingPortrait x = fresh();
            x.first(0, 4);
            due("drift(0, 0, 2)", x.drift(0, 0, 2), 16);
            due("drift(0, 0, 0)", x.drift(0, 0, 0), 4);
            due("drift(0, 0, 1)", x.drift(0, 0, 1), 4);
            due("nobody", x.drift(0, 1, 2), 0);
            due("nobody", x.drift(0, 1, 0), NONE);
            due("nobody", x.drift(0, 1, 1), NONE);
            x.painter(1, 0);
            x.painter(3, 0);
            x.err(1, 1, 6);
            lawIn(x, "looks 9; bars if year = 3 and painter = 1; bars if year = 9");
            due("drift(0, 1, 2)", x.drift(0, 1, 2), 1 << 5 | 1 << 7);
            due("drift(1, 1, 2)", x.drift(1, 1, 2), 1 << 1 | 1 << 6);
            due("drift(0, 2, 2)", x.drift(0, 2, 2), 1 << 6 | 1 << 8 | 1 << 9);
            due("drift(0, 3, 2)", x.drift(0, 3, 2), 1 << 7 | 1 << 9);
            due("drift(0, 3, 0)", x.drift(0, 3, 0), 7);
            due("drift(0, 3, 1)", x.drift(0, 3, 1), 9);
            due("drift(0, 8, 2)", x.drift(0, 8, 2), 1 << 9);
            due("drift(0, 9, 2)", x.drift(0, 9, 2), 0);
            due("drift(0, 10, 0)", x.drift(0, 10, 0), NONE);
            x.terms(4, 3);
            x.paint(1);
            due("rests aside", x.drift(0, 1, 2), 1 << 8 | 1 << 9);
            due("drift(0, 11, 0)", x.drift(0, 11, 0), NONE);
            due("drift(0, -1, 0)", x.drift(0, -1, 0), NONE);
            due("drift(12, 0, 0)", x.drift(12, 0, 0), NONE);
            due("drift(-1, 0, 0)", x.drift(-1, 0, 0), NONE);
            due("drift(0, 0, 3)", x.drift(0, 0, 3), NONE);
            due("drift(0, 0, -1)", x.drift(0, 0, -1), NONE);
        }

        static void undoings() {
            on(29);
            AgingPortrait x = fresh();
            due("of none", x.undoing(NONE), 0);
            due("the first of none", x.undoing(0), NONE);
            x.painter(1, 0);
            x.painter(1, 0);
            x.painter(2, 0);
            lawIn(x, "looks 0; looks 5 if year = 1; bars");
            due("how many", x.undoing(NONE), 7);
            int[] pairs = {0, 1, 2, 5, 6, 7, 12};
            for (int i = 0; i < pairs.length; i++) {
                due("undoing(" + i + ")", x.undoing(i), pairs[i]);
            }
            due("undoing(7)", x.undoing(7), NONE);
            due("undoing(-2)", x.undoing(-2), NONE);
            x.first(7, 9);
            due("not all cells", x.undoing(NONE), 0);
            x.first(7, 0);
            for (int cell = 0; cell < 12; cell += 11) {
                x.first(cell, 9);
                due("not cell " + cell, x.undoing(NONE), 0);
                x.first(cell, 0);
            }
            due("again", x.undoing(NONE), 7);
            AgingPortrait y = fresh();
            y.painter(9, 0);
            row(y, 2, 2, 2, 2, 2, 2, 2, 2, 2, 2, 2, 2);
            due("he again", y.undoing(0), 0);
            y.terms(4, 3);
            y.paint(0);
            due("rests aside", y.undoing(NONE), 1);
            y.err(0, 2, 4);
            due("one error", y.undoing(NONE), 0);
        }
    }

    /** Copies: near, like, the tree, dated, known. */
    private static final class Copying {
        static void all() {
            copies();
            nears();
            trees();
            dates();
            knows();
        }

        static void copies() {
            on(30);
            AgingPortrait x = fresh();
            for (int i = 0; i < 6; i++) {
                x.first(0, i);
                taken(x, "copy", x.copy(), i);
            }
            refused(x, "a seventh", x.copy(), -5);
            due("copies", x.count(4), 6);
            on(31);
            taken(x, "touch(5, 0, 9)", x.touch(5, 0, 9), 5);
            taken(x, "touch(5, 0, 0)", x.touch(5, 0, 0), 9);
            taken(x, "touch(4, 0, 0)", x.touch(4, 0, 0), 4);
            taken(x, "touch(0, 11, 9)", x.touch(0, 11, 9), 0);
            refused(x, "touch(6, 0, 0)", x.touch(6, 0, 0), -2);
            refused(x, "touch(-1, 0, 0)", x.touch(-1, 0, 0), -2);
            refused(x, "touch(6, 12, 0)", x.touch(6, 12, 0), -1);
            refused(x, "touch(0, -1, 0)", x.touch(0, -1, 0), -1);
            refused(x, "touch(0, 0, 10)", x.touch(0, 0, 10), -1);
            refused(x, "touch(0, 0, -1)", x.touch(0, 0, -1), -1);
            due("what is seen stays", x.tone(0, 0), 5);
            on(32);
            x.paint(9);
            due("burn", x.burn(), 6);
            due("no status of its own", x.status(), -2);
            due("burn", x.burn(), 0);
            due("copies", x.count(4), 0);
            refused(x, "touch(0, 0, 0)", x.touch(0, 0, 0), -2);
            on(30);
            x.painter(9, 0);
            x.paint(0);
            taken(x, "copy", x.copy(), 0);
            on(31);
            due("of what is seen", x.touch(0, 0, 7), 2);
        }

        static void nears() {
            on(33);
            AgingPortrait x = fresh();
            due("heirs of none", x.near(NONE), 0);
            due("near(0)", x.near(0), NONE);
            x.copy();
            x.copy();
            x.copy();
            x.touch(0, 0, 9);
            x.touch(0, 11, 1);
            x.touch(1, 5, 1);
            x.touch(2, 4, 5);
            due("near(0)", x.near(0), 2);
            due("near(1)", x.near(1), 1);
            due("near(3)", x.near(3), NONE);
            due("near(-2)", x.near(-2), NONE);
            due("heirs", x.near(NONE), 6);
            x.painter(1, 0);
            x.paint(0);
            due("of what is seen", x.near(1), 11);
            due("near(2)", x.near(2), 12);
            due("heirs", x.near(NONE), 3);
            on(34);
            due("like(0, 1)", x.like(0, 1), 3);
            due("like(1, 0)", x.like(1, 0), 3);
            due("like(1, 1)", x.like(1, 1), 0);
            due("like(0, NONE)", x.like(0, NONE), 2);
            due("like(NONE, 1)", x.like(NONE, 1), 1);
            due("like(NONE, NONE)", x.like(NONE, NONE), 0);
            due("like(3, 0)", x.like(3, 0), NONE);
            due("like(0, 3)", x.like(0, 3), NONE);
            due("like(-2, 0)", x.like(-2, 0), NONE);
        }

        static void trees() {
            AgingPortrait x = fresh();
            on(35);
            due("tree(0) of none", x.tree(0), 0);
            due("tree(1) of none", x.tree(1), NONE);
            on(36);
            due("trees of none", x.trees(), 1);
            x.copy();
            x.copy();
            x.copy();
            due("three alike", x.trees(), 16);
            on(35);
            due("tree(0)", x.tree(0), 0);
            for (int i = 1; i <= 3; i++) {
                due("tree(" + i + ")", x.tree(i), 100);
            }
            due("tree(4)", x.tree(4), NONE);
            due("tree(-1)", x.tree(-1), NONE);
            x.touch(0, 0, 1);
            x.touch(0, 1, 1);
            x.touch(1, 0, 1);
            x.touch(2, 0, 1);
            x.touch(2, 1, 1);
            x.touch(2, 2, 1);
            due("a chain", x.tree(0), 3);
            due("tree(1)", x.tree(1), 1);
            due("tree(2)", x.tree(2), 100);
            due("tree(3)", x.tree(3), 0);
            on(36);
            due("one way", x.trees(), 1);
            x.touch(1, 1, 2);
            on(35);
            due("tree(0)", x.tree(0), 4);
            due("tree(1)", x.tree(1), 100);
            due("tree(2)", x.tree(2), 0);
            due("tree(3)", x.tree(3), 0);
            on(36);
            due("two of two from layer 0", x.trees(), 2);
            x.copy();
            x.copy();
            x.copy();
            x.burn();
            for (int i = 0; i < 6; i++) {
                x.copy();
            }
            due("six alike: 7 to the 5th", x.trees(), 16807);
            on(35);
            due("tree(6)", x.tree(6), 100);
            due("tree(7)", x.tree(7), NONE);
            x.painter(9, 0);
            x.paint(0);
            x.burn();
            x.copy();
            due("from layer 0", x.tree(0), 12);
        }

        static void dates() {
            on(37);
            AgingPortrait x = fresh();
            x.painter(1, 0);
            x.copy();
            x.paint(0);
            x.copy();
            x.paint(0);
            x.paint(0);
            x.copy();
            x.touch(2, 0, 9);
            x.copy();
            for (int cell = 0; cell < 12; cell++) {
                x.touch(3, cell, 8);
            }
            int[][] want = {{0, 0, 0, 1}, {0, 1, 1, 1}, {1, 2, 3, 2}, {12, 0, 3, 4}};
            for (int copy = 0; copy < 4; copy++) {
                for (int what = 0; what < 4; what++) {
                    due("dated(" + copy + ", " + what + ")", x.dated(copy, what), want[copy][what]);
                }
            }
            due("dated(0, 4)", x.dated(0, 4), NONE);
            due("dated(0, -1)", x.dated(0, -1), NONE);
            due("dated(4, 0)", x.dated(4, 0), NONE);
            due("dated(-1, 0)", x.dated(-1, 0), NONE);
            x.forge(1, 0, 0);
            x.forge(1, 5, 0);
            x.touch(1, 0, 0);
            due("forged", x.dated(1, 0), 1);
        }

        static void knows() {
            on(38);
            AgingPortrait x = fresh();
            due("know(0) of none", x.know(0), NONE);
            due("know(1) of none", x.know(1), NONE);
            x.copy();
            due("know(0) of one", x.know(0), 0);
            due("know(1) of one", x.know(1), NONE);
            x.copy();
            due("know(0) of alike ones", x.know(0), 0);
            x.touch(1, 9, 1);
            x.touch(1, 10, 1);
            due("know(0) of two", x.know(0), 1);
            due("know(1) of two", x.know(1), 9);
            x.copy();
            x.touch(2, 4, 1);
            due("know(0) of three", x.know(0), 2);
            due("know(1) of three", x.know(1), 4);
            x.touch(2, 10, 2);
            due("one cell tells three", x.know(0), 1);
            due("the lowest", x.know(1), 10);
            x.copy();
            due("alike ones need not be told apart", x.know(0), 1);
            x.copy();
            x.touch(4, 0, 1);
            due("know(0) of four", x.know(0), 2);
            due("know(1) of four", x.know(1), 0);
            due("know(2)", x.know(2), NONE);
            due("know(-1)", x.know(-1), NONE);
            AgingPortrait y = fresh();
            for (int i = 0; i < 6; i++) {
                y.copy();
                y.touch(i, i, 1);
            }
            due("one after the other", y.know(0), 5);
            due("from the lowest", y.know(1), 0);
            for (int i = 0; i < 6; i++) {
                y.touch(i, 10, i / 3);
                y.touch(i, 11, i % 3);
            }
            due("by two", y.know(0), 2);
            due("the lowest of the two", y.know(1), 10);
        }
    }

    /** Claimants and who rules when. */
    private static final class Ruling {
        static void all() {
            claimants();
            claims();
            standings();
            rulers();
            lines();
        }

        static void claimants() {
            on(45);
            AgingPortrait x = fresh();
            refused(x, "no such parent", x.claimant(0, 0, 5, NONE), -2);
            refused(x, "claimant(-2, 0, 5, NONE)", x.claimant(-2, 0, 5, NONE), -1);
            refused(x, "born -1", x.claimant(NONE, -1, 5, NONE), -1);
            refused(x, "born 100", x.claimant(NONE, 100, 105, NONE), -1);
            refused(x, "dead as born", x.claimant(NONE, 10, 10, NONE), -1);
            refused(x, "dead 151", x.claimant(NONE, 10, 151, NONE), -1);
            refused(x, "copy -2", x.claimant(NONE, 10, 11, -2), -1);
            refused(x, "copy 6", x.claimant(NONE, 10, 11, 6), -1);
            refused(x, "copy 6, no such parent", x.claimant(5, 10, 11, 6), -1);
            taken(x, "claimant", x.claimant(NONE, 0, 1, NONE), 0);
            refused(x, "his own parent", x.claimant(1, 0, 1, NONE), -2);
            taken(x, "claimant", x.claimant(0, 99, 150, 5), 1);
            for (int i = 2; i < 8; i++) {
                taken(x, "claimant", x.claimant(i - 1, i, 10 + i, 0), i);
            }
            refused(x, "a ninth", x.claimant(NONE, 0, 1, NONE), -5);
            refused(x, "a ninth without parent", x.claimant(8, 0, 1, NONE), -2);
            refused(x, "a ninth that can't be", x.claimant(NONE, 0, 0, NONE), -1);
            due("claimants", x.count(5), 8);
            on(47);
            int[] traits = {0, 99, 150, 5};
            for (int what = 0; what < 4; what++) {
                due("born(1, " + what + ")", x.born(1, what), traits[what]);
            }
            due("born(0, 0)", x.born(0, 0), NONE);
            due("born(0, 3)", x.born(0, 3), NONE);
            due("born(7, 0)", x.born(7, 0), 6);
            due("born(7, 1)", x.born(7, 1), 7);
            due("born(7, 2)", x.born(7, 2), 17);
            due("born(7, 4)", x.born(7, 4), NONE);
            due("born(7, -1)", x.born(7, -1), NONE);
            due("born(8, 1)", x.born(8, 1), NONE);
            due("born(-1, 1)", x.born(-1, 1), NONE);
        }

        static void claims() {
            on(46);
            AgingPortrait x = fresh();
            x.claimant(NONE, 10, 20, NONE);
            taken(x, "claim(0, 0, 11)", x.claim(0, 0, 11), 20);
            taken(x, "claim(0, 0, 150)", x.claim(0, 0, 150), 11);
            taken(x, "claim(0, 1, 5)", x.claim(0, 1, 5), NONE);
            taken(x, "claim(0, 1, NONE)", x.claim(0, 1, NONE), 5);
            refused(x, "dead 151", x.claim(0, 0, 151), -1);
            refused(x, "dead as born", x.claim(0, 0, 10), -1);
            refused(x, "dead ahead", x.claim(0, 0, 5), -1);
            refused(x, "dead -1", x.claim(0, 0, -1), -1);
            refused(x, "copy 6", x.claim(0, 1, 6), -1);
            refused(x, "copy -2", x.claim(0, 1, -2), -1);
            refused(x, "claim(0, 2, 5)", x.claim(0, 2, 5), -1);
            refused(x, "claim(0, -1, 5)", x.claim(0, -1, 5), -1);
            refused(x, "claim(1, 0, 5)", x.claim(1, 0, 5), -2);
            refused(x, "claim(-1, 1, 5)", x.claim(-1, 1, 5), -2);
            refused(x, "claim(1, 1, 6)", x.claim(1, 1, 6), -1);
            refused(x, "claim(1, 0, 151)", x.claim(1, 0, 151), -1);
            refused(x, "too early, but for whom", x.claim(1, 0, 0), -2);
            refused(x, "no year, whoever it is", x.claim(1, 0, -1), -1);
            refused(x, "no year, whoever it is", x.claim(-1, 0, Integer.MIN_VALUE), -1);
            refused(x, "lowest", x.claim(0, 0, Integer.MIN_VALUE), -1);
            refused(x, "what first", x.claim(1, 2, 0), -1);
            due("dead", x.born(0, 2), 150);
            due("copy", x.born(0, 3), NONE);
            AgingPortrait y = fresh();
            y.claimant(NONE, 0, 20, NONE);
            taken(y, "claim(0, 0, 1)", y.claim(0, 0, 1), 20);
            refused(y, "claim(0, 0, 0)", y.claim(0, 0, 0), -1);
        }

        static void standings() {
            on(48);
            AgingPortrait x = fresh();
            x.claimant(NONE, 10, 50, 0);
            x.claimant(0, 20, 40, 1);
            x.claimant(0, 30, 99, NONE);
            due("not yet born", x.stands(0, 9, 0), 0);
            due("born", x.stands(0, 10, 0), 1);
            due("not yet dead", x.stands(0, 49, 0), 1);
            due("dead", x.stands(0, 50, 0), 0);
            due("no child", x.stands(0, 19, 3), 0);
            due("one child", x.stands(0, 20, 3), 1);
            due("two children", x.stands(0, 30, 3), 2);
            due("one left", x.stands(0, 40, 3), 1);
            due("no child of hers", x.stands(1, 30, 3), 0);
            due("ranks", x.stands(2, 0, 1), 2);
            due("not barred", x.stands(2, 0, 2), 0);
            x.copy();
            x.touch(0, 0, 5);
            x.touch(0, 1, 5);
            lawIn(x, "ranks claimant * 100 + near * 10 + children; bars if age > 9 and age < 20");
            due("ranks", x.stands(0, 30, 1), 22);
            due("a copy that is not there", x.stands(1, 30, 1), 90);
            due("without copy", x.stands(2, 30, 1), 190);
            due("age 9", x.stands(0, 19, 2), 0);
            due("age 10", x.stands(0, 20, 2), 1);
            due("age 19", x.stands(0, 29, 2), 1);
            due("age 20", x.stands(0, 30, 2), 0);
            lawIn(x, "ranks born * 2 + year");
            due("born, year", x.stands(1, 7, 1), 47);
            lawIn(x, "ranks age");
            due("age below 0: 0", x.stands(1, 7, 1), 0);
            due("age", x.stands(1, 27, 1), 7);
            lawIn(x, "ranks 1000 if claimant = 1");
            due("999 at most", x.stands(1, 7, 1), 999);
            due("its number", x.stands(2, 7, 1), 2);
            lawIn(x, "ranks 5 + cell + painter + price");
            due("what is not named", x.stands(2, 7, 1), 2);
            lawIn(x, "ranks 5 + 1000 * [cell + 1] + 1000 * [painter + 1] + 1000 * [price + 1]");
            x.force(NONE);
            due("stands(3, 0, 0)", x.stands(3, 0, 0), NONE);
            due("stands(-1, 0, 0)", x.stands(-1, 0, 0), NONE);
            due("stands(0, 100, 0)", x.stands(0, 100, 0), NONE);
            due("stands(0, -1, 0)", x.stands(0, -1, 0), NONE);
            due("stands(0, 0, 4)", x.stands(0, 0, 4), NONE);
            due("stands(0, 0, -1)", x.stands(0, 0, -1), NONE);
            due("stands(2, 98, 0)", x.stands(2, 98, 0), 1);
            due("stands(2, 99, 0)", x.stands(2, 99, 0), 0);
        }

        static void rulers() {
            AgingPortrait x = fresh();
            on(49);
            due("of none", x.ruler(0), NONE);
            on(51);
            due("of none", x.vacant(), 100);
            on(50);
            due("of none", x.reign(NONE, 0), 0);
            x.claimant(NONE, 10, 20, NONE);
            x.claimant(NONE, 5, 40, NONE);
            x.claimant(NONE, 0, 3, NONE);
            x.claimant(NONE, 25, 45, NONE);
            x.claimant(NONE, 90, 150, NONE);
            int[][] reigns = {{2, 0, 3}, {1, 5, 35}, {3, 40, 5}, {4, 90, 10}};
            on(50);
            due("how many", x.reign(NONE, 0), 4);
            for (int i = 0; i < 4; i++) {
                for (int what = 0; what < 3; what++) {
                    due("reign(" + i + ", " + what + ")", x.reign(i, what), reigns[i][what]);
                }
            }
            due("reign(4, 0)", x.reign(4, 0), NONE);
            due("reign(-2, 0)", x.reign(-2, 0), NONE);
            due("reign(0, 3)", x.reign(0, 3), NONE);
            due("reign(0, -1)", x.reign(0, -1), NONE);
            on(49);
            int[] years = {0, 2, 3, 4, 5, 10, 20, 39, 40, 44, 45, 89, 90, 99};
            int[] who = {2, 2, NONE, NONE, 1, 1, 1, 1, 3, 3, NONE, NONE, 4, 4};
            for (int i = 0; i < years.length; i++) {
                due("ruler(" + years[i] + ")", x.ruler(years[i]), who[i]);
            }
            due("ruler(100)", x.ruler(100), NONE);
            due("ruler(-1)", x.ruler(-1), NONE);
            on(51);
            due("vacant", x.vacant(), 2 + 45);
            on(49);
            x.claim(1, 0, 15);
            due("the lowest of alike", x.ruler(15), 0);
            due("till dead", x.ruler(19), 0);
            due("vacant then", x.ruler(20), NONE);
            lawIn(x, "ranks 7; bars if claimant = 0 or claimant = 1 and year > 7");
            due("barred later: goes on", x.ruler(14), 1);
            due("barred: not come", x.ruler(15), NONE);
            on(50);
            due("reign of 1", x.reign(1, 2), 10);
            lawIn(x, "ranks 9 - claimant");
            x.claim(3, 0, 46);
            x.claim(1, 0, 26);
            x.claimant(NONE, 26, 30, NONE);
            on(49);
            due("who ranks least", x.ruler(26), 5);
            due("then", x.ruler(30), 3);
        }

        static void lines() {
            on(52);
            AgingPortrait x = fresh();
            due("of none", x.line(0, NONE), 0);
            x.claimant(NONE, 0, 50, NONE);
            x.claimant(NONE, 0, 60, NONE);
            x.claimant(NONE, 0, 70, NONE);
            x.claimant(NONE, 60, 100, NONE);
            due("how many", x.line(0, NONE), 3);
            for (int i = 0; i < 3; i++) {
                due("line(0, " + i + ")", x.line(0, i), i);
            }
            due("line(0, 3)", x.line(0, 3), NONE);
            due("line(0, -2)", x.line(0, -2), NONE);
            due("line(100, 0)", x.line(100, 0), NONE);
            due("line(-1, NONE)", x.line(-1, NONE), NONE);
            lawIn(x, "ranks 5; ranks 3 if claimant = 2; bars if year = 10 and claimant = 0");
            int[] line = {2, 0, 1};
            for (int i = 0; i < 3; i++) {
                due("by ranks, then numbers", x.line(0, i), line[i]);
            }
            due("but the barred", x.line(10, NONE), 2);
            due("but the barred", x.line(10, 1), 1);
            due("but the dead", x.line(60, NONE), 2);
            due("line(99, 0)", x.line(99, 0), 3);
            due("one that rules stands in it", x.line(30, 1), 0);
        }
    }

    /** Centuries, images, counts, status. */
    private static final class Keeping {
        static void all() {
            centuries();
            images();
            counts();
        }

        static void centuries() {
            on(54);
            AgingPortrait x = fresh();
            due("ahead of any", x.drawn(0), NONE);
            x.painter(1, 0);
            due("ahead of any", x.drawn(100), NONE);
            x.painter(4, 0);
            x.first(3, 9);
            on(53);
            refused(x, "century(-1, 0)", x.century(-1, 0), -1);
            refused(x, "century(1000001, 0)", x.century(1000001, 0), -1);
            refused(x, "century(0, -1)", x.century(0, -1), -1);
            refused(x, "century(0, 41)", x.century(0, 41), -1);
            due("refused ones are not kept", x.drawn(0), NONE);
            taken(x, "century(7, 0)", x.century(7, 0), 22 + 7);
            on(54);
            due("of what is seen", x.drawn(3), 9);
            due("none painted", x.drawn(100), 0);
            on(53);
            long s = 999999;
            int[] tones = {0, 0, 0, 9, 0, 0, 0, 0, 0, 0, 0, 0};
            int[] painted = new int[2];
            for (int year = 1; year <= 40; year++) {
                s = (s * 1103 + 12345) % 1000003;
                int painter = (int) (s % 2);
                int reach = painter == 0 ? 1 : 4;
                painted[painter]++;
                for (int cell = 0; cell < 12; cell++) {
                    int aim = (20 + year) / 10;
                    int far = aim - tones[cell];
                    tones[cell] += Math.max(-reach, Math.min(reach, far));
                    s = (s * 1103 + 12345) % 1000003;
                    int shift = s % 8 == 0 ? -1 : s % 8 == 1 ? 1 : 0;
                    tones[cell] = Math.max(0, Math.min(9, tones[cell] + shift));
                }
            }
            int unlike = 0;
            for (int cell = 0; cell < 12; cell++) {
                unlike += Math.abs(tones[cell] - 6);
            }
            taken(x, "century(999999, 40)", x.century(999999, 40), unlike);
            on(54);
            for (int cell = 0; cell < 12; cell++) {
                due("drawn(" + cell + ")", x.drawn(cell), tones[cell]);
            }
            due("drawn(100)", x.drawn(100), painted[0]);
            due("drawn(101)", x.drawn(101), painted[1]);
            due("drawn(102)", x.drawn(102), NONE);
            due("drawn(12)", x.drawn(12), NONE);
            due("drawn(99)", x.drawn(99), NONE);
            due("drawn(-1)", x.drawn(-1), NONE);
            on(53);
            due("nothing is painted", x.count(3), 0);
            x.century(0, 41);
            due("the latest stays", x.drawn(100), painted[0]);
            x.paint(0);
            lawIn(x, "bars; looks 9 if year = 2; looks 0");
            x.terms(4, 3);
            taken(x, "barred or resting, from what is seen", x.century(1000000, 1), centuryOne());
            AgingPortrait y = fresh();
            y.painter(1, 0);
            for (int i = 0; i < 16; i++) {
                y.paint(0);
            }
            due("from year 16 on", y.century(0, 40) >= 0 ? 1 : 0, 1);
            due("all forty", y.drawn(100), 40);
            AgingPortrait z = fresh();
            taken(z, "without painters", z.century(3, 10), 36);
            on(54);
            due("none is painted", z.drawn(0), 0);
            due("drawn(100)", z.drawn(100), NONE);
            for (int painter = 0; painter < 5; painter++) {
                z.painter(1, 0);
                due("told later", z.drawn(100 + painter), NONE);
            }
            z.century(3, 0);
            due("told ahead of it", z.drawn(104), 0);
            due("no sixth", z.drawn(105), NONE);
            due("far beyond", z.drawn(Integer.MAX_VALUE), NONE);
        }

        /** Unlike 0 all over behind one year from a painted first one, with the seed 1000000. */
        private static int centuryOne() {
            int[] seen = {1, 1, 1, 8, 1, 1, 1, 1, 1, 1, 1, 1};
            long s = (1000000L * 1103 + 12345) % 1000003;
            int reach = s % 2 == 0 ? 1 : 4;
            int unlike = 0;
            for (int cell = 0; cell < 12; cell++) {
                s = (s * 1103 + 12345) % 1000003;
                int shift = s % 8 == 0 ? -1 : s % 8 == 1 ? 1 : 0;
                int tone = seen[cell] - Math.min(reach, seen[cell]);
                unlike += Math.max(0, tone + shift);
            }
            return unlike;
        }

        static void images() {
            on(55);
            AgingPortrait x = fresh();
            refused(x, "image(-1)", x.image(-1), -1);
            refused(x, "image(2)", x.image(2), -1);
            on(56);
            refused(x, "back(-1)", x.back(-1), -1);
            refused(x, "back(2)", x.back(2), -1);
            refused(x, "back(0)", x.back(0), -2);
            refused(x, "back(1)", x.back(1), -2);
            x.painter(2, 9);
            x.scar(3, 2, 4);
            x.terms(2, 5);
            lawIn(x, "looks 6");
            x.paint(0);
            x.copy();
            x.claimant(NONE, 3, 9, 0);
            on(55);
            taken(x, "image(1)", x.image(1), 0);
            x.err(0, 0, 0);
            x.painter(1, 1);
            x.heal(0);
            x.terms(2, 6);
            lawIn(x, "looks 2");
            x.paint(1);
            x.forge(1, 0, 9);
            x.touch(0, 0, 9);
            x.copy();
            x.claim(0, 0, 99);
            x.claimant(NONE, 1, 9, NONE);
            x.century(6, 3);
            row(x, 1, 2, 99);
            run(x, "copy; copy; scrape");
            tell(x, "abc");
            refused(x, "first(12, 0)", x.first(12, 0), -1);
            int drawn = x.drawn(101);
            int refusals = x.count(7);
            on(56);
            taken(x, "back(1)", x.back(1), 0);
            int[] counts = {1, 1, 1, 1, 1, 1, 3};
            for (int what = 0; what < counts.length; what++) {
                due("count(" + what + ")", x.count(what), counts[what]);
            }
            due("refusals stay", x.count(7), refusals);
            due("in force", x.count(12), 0);
            due("mood", x.count(15), 5);
            due("error", x.of(0, 2), 3);
            due("scar", x.looks(3, 2, 0), 4);
            due("law", x.looks(4, 2, 0), 6);
            due("layer 0", x.tone(0, 0), 0);
            due("layer 1", x.tone(1, 0), 2);
            due("who painted", x.layer(1, 1), 0);
            due("copy", x.touch(0, 0, 7), 2);
            due("dead", x.born(0, 2), 9);
            due("flakes stay", x.flakes(), 1);
            due("where orders stopped stays", x.stopped(), 2);
            due("the century stays", x.drawn(100), 3 - drawn);
            due("of a painter gone", x.drawn(101), drawn);
            x.painter(9, 9);
            due("of one told in his place", x.drawn(101), drawn);
            x.century(6, 3);
            x.back(1);
            due("of the latest century", x.drawn(100) + x.drawn(101), 3);
            x.paint(0);
            taken(x, "back(1) again", x.back(1), 0);
            due("images stay", x.touch(0, 0, 2), 2);
            due("years", x.count(3), 1);
            refused(x, "back(0)", x.back(0), -2);
            x.scrape();
            x.image(0);
            x.back(1);
            due("image 1", x.count(3), 1);
            x.back(0);
            due("image 0", x.count(3), 0);
            x.first(0, 8);
            x.image(1);
            x.first(0, 7);
            x.back(1);
            due("kept anew", x.tone(0, 0), 8);
            x.back(0);
            due("the other stays", x.tone(0, 0), 0);
            tell(x, "d");
            due("the tape stays", x.count(6), 1);
            on(55);
            tell(x.back(0) == 0 ? fresh() : x, "q");
            AgingPortrait y = fresh();
            tell(y, "looks 1 1").law();
            y.image(0);
            tell(y, "looks 1").law();
            y.back(0);
            due("fault is not kept", y.fault(), NONE);
            due("laws are", y.count(1), 0);
            y.image(0);
            lawIn(y, "looks 7");
            y.image(1);
            y.back(0);
            due("not in force", y.looks(0, 0, 0), 2);
            lawIn(y, "looks 4");
            y.back(1);
            due("that law, not the later one", y.looks(0, 0, 0), 7);
            y.back(0);
            lawIn(y, "looks 3");
            due("another", y.looks(0, 0, 0), 3);
        }

        static void counts() {
            on(57);
            AgingPortrait x = fresh();
            x.first(12, 0);
            x.first(12, 0);
            x.paint(0);
            x.scrape();
            x.scrape();
            x.scrape();
            x.row();
            for (int i = 0; i < 7; i++) {
                x.copy();
            }
            x.of(9, 9);
            x.tone(99, 99);
            x.feed(0, 0, 0, 0, 0);
            x.end(-1);
            int[] counts = {0, 0, 0, 0, 6, 0, 20, 2, 1, 3, 1, 1, NONE, 20, 3, 0, 100, 0};
            for (int what = 0; what < counts.length; what++) {
                due("count(" + what + ")", x.count(what), counts[what]);
            }
            due("count(18)", x.count(18), NONE);
            due("count(-1)", x.count(-1), NONE);
            on(58);
            due("of the latest of those", x.status(), -5);
            x.burn();
            due("burn is none of them", x.status(), -5);
            x.plan(9, 9, 9);
            x.know(0);
            due("nor is a question", x.status(), -5);
            x.first(0, 0);
            due("not refused", x.status(), 0);
            due("heal(0)", x.heal(0), -2);
            due("by heal", x.status(), -2);
            due("a new one", fresh().status(), 0);
        }
    }
}
