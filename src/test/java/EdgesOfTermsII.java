/** Terms II, sentence by sentence: the laws, what they are asked of, the orders. */
public final class EdgesOfTermsII {
    private static final String II = "Terms II";
    private static final String MILLIARD = "1000*1000*1000";

    public static void main(String[] args) {
        roomForLaws();
        tokens();
        clauses();
        numbers();
        parts();
        brackets();
        faults();
        askedOf();
        broken();
        holding();
        answers();
        Orders.all();
        Edges.close();
    }

    /** A line for a law that must be readable: a CELL then LOOKS so. */
    private static String looks(String sum, int tone) {
        return "rules looks 3; looks " + sum + "\nlooks(0, 0, 0) -> " + tone + "\n"
                + "back(0) -> 0\n";
    }

    /** Whether an "if" makes a clause HOLD. */
    private static String holds(String test, boolean so) {
        return "rules looks 3; looks 5 if " + test + "\nlooks(0, 0, 0) -> " + (so ? 5 : 3) + "\n"
                + "back(0) -> 0\n";
    }

    private static void roomForLaws() {
        Edges.sentence(II, "LAWS are TEXTS, 6 at most",
                Edges.each(0, 5, "law looks # -> #"), """
                count(1) -> 6
                law looks 9 -> refused -5
                count(1) -> 6
                force(5) -> NONE
                looks(0, 0, 0) -> 5
                force(6) -> refused -2
                """);
        Edges.sentence(II, "on a TAPE of at most 400 bytes",
                Edges.each(1, 20, "feed(0, 0, 0, 0, #)"), """
                count(6) -> 400
                feed(0, 0, 0, 0, 0) -> NONE
                count(6) -> 400
                end(381) -> 381
                feed(0, 0, 0, 0, 0) -> NONE
                count(6) -> 381
                end(380) -> 380
                feed(0, 0, 0, 0, 0) -> 400
                """,
                "new\nrules 'looks" + " ".repeat(394) + "7'\nlooks(0, 0, 0) -> 7",
                "new\nlaw 'looks" + " ".repeat(394) + "!' -> fault 399",
                "new\nlaw 'looks" + " ".repeat(395) + "' -> fault 400",
                "new\norders 'copy" + " ".repeat(393) + "tim' -> fault 397",
                "new\norders 'copy times" + " ".repeat(389) + "6' -> 6");
        Edges.sentence(II, "one is in FORCE (NONE at first: no CLAUSE)", """
                painter(1, 8)
                claimant(NONE, 0, 9, NONE)
                count(12) -> NONE
                looks(0, 0, 0) -> 2
                looks(0, 0, 1) -> 9
                asks(0, 0, 0) -> 8
                asks(0, 0, 1) -> 0
                stands(0, 0, 1) -> 0
                stands(0, 0, 2) -> 0
                law looks 7; lets 6; asks 5; ranks 4; bars -> 0
                law lets 1 -> 1
                count(12) -> NONE
                looks(0, 0, 0) -> 2
                looks(0, 0, 1) -> 9
                asks(0, 0, 0) -> 8
                asks(0, 0, 1) -> 0
                stands(0, 0, 1) -> 0
                stands(0, 0, 2) -> 0
                force(0) -> NONE
                count(12) -> 0
                looks(0, 0, 0) -> 7
                looks(0, 0, 1) -> 6
                asks(0, 0, 0) -> 5
                asks(0, 0, 1) -> 1
                stands(0, 0, 1) -> 4
                stands(0, 0, 2) -> 1
                force(1) -> 0
                looks(0, 0, 0) -> 2
                looks(0, 0, 1) -> 1
                force(NONE) -> 1
                count(12) -> NONE
                looks(0, 0, 1) -> 9
                """);
    }

    private static void tokens() {
        Edges.sentence(II, "TOKENS: longest rows of letters a .. z", """
                law looksa 1 -> fault 0
                law looksz 1 -> fault 0
                law alooks 1 -> fault 0
                law zlooks 1 -> fault 0
                law loo ks 1 -> fault 0
                law looks agea -> fault 6
                law looks agez -> fault 6
                law looks1a -> fault 6
                law looks%60 1 -> fault 5
                law looks{ 1 -> fault 5
                law looksA 1 -> fault 5
                law looksZ 1 -> fault 5
                law Looks 1 -> fault 0
                law looks Age -> fault 6
                law looks%E1 1 -> fault 5
                count(1) -> 0
                """);
        Edges.sentence(II, "TOKENS: longest rows .. of digits", """
                law looks 1 0 -> fault 8
                law looks 1001 -> fault 6
                law looks 1: -> fault 7
                law looks 0: -> fault 7
                law looks 9/ -> fault 8
                rules looks 9/1
                looks(0, 0, 0) -> 9
                rules looks 09-9+3
                looks(0, 0, 0) -> 3
                rules looks 10-1
                looks(0, 0, 0) -> 9
                law looks 1%B2 -> fault 7
                """);
        Edges.sentence(II, "TOKENS: .. single other bytes", """
                law looks 1;;looks 1 -> fault 8
                law bars if 1<=2 -> fault 10
                law bars if 1==2 -> fault 10
                law bars if ((1=1)) -> 0
                law looks [[1]] -> 1
                law looks 1++1 -> fault 8
                law looks 1%00 -> fault 7
                law looks 1%1F -> fault 7
                law looks 1! -> fault 7
                law looks 1%7F -> fault 7
                law looks 1%80 -> fault 7
                law looks 1%FF -> fault 7
                law looks 1!! -> fault 7
                """);
        Edges.sentence(II, "any blanks (32) between", """
                law '   looks     5   ;   looks   6   ' -> 0
                law looks5;looks6if1=1 -> 1
                law bars  if  (  not  1  <  2  )  -> 2
                law looks%095 -> fault 5
                law looks%0A5 -> fault 5
                law looks%0D5 -> fault 5
                law looks%005 -> fault 5
                law looks%1F5 -> fault 5
                law looks!5 -> fault 5
                law looks%A05 -> fault 5
                law '     !' -> fault 5
                law 'looks 5     !' -> fault 12
                orders '  copy  times  2  ' -> 2
                orders copytimes2 -> fault 0
                orders copy%09times 2 -> fault 4
                """);
    }

    private static void clauses() {
        Edges.sentence(II, "CLAUSE {\";\" CLAUSE}, 12 at most (FAULT at the 13th's first TOKEN)",
                "rules " + Edges.many("looks 1", ";", 11) + ";looks 7",
                "looks(0, 0, 0) -> 7",
                "rules looks 8;" + Edges.many("bars", ";", 11),
                "looks(0, 0, 0) -> 8",
                "law " + Edges.many("bars", ";", 13) + " -> fault 60",
                "law " + Edges.many("bars", ";", 14) + " -> fault 60",
                "law '" + Edges.many("bars", ";", 12) + ";   bars' -> fault 63",
                "law '" + Edges.many("bars", ";", 12) + ";' -> fault 60",
                "law '" + Edges.many("bars", ";", 12) + ";  ' -> fault 62",
                "law '" + Edges.many("bars", ";", 12) + "; !' -> fault 61",
                "law '" + Edges.many("bars", ";", 12) + " bars' -> fault 60",
                "law '" + Edges.many("bars", ";", 11) + ";bras; bars' -> fault 55",
                "law '" + Edges.many("bars", ";", 12) + ";;' -> fault 60",
                "law bars;; -> fault 5",
                "law ;bars -> fault 0",
                "law 'bars;' -> fault 5",
                "law 'bars; ' -> fault 6",
                "count(1) -> 2");
        Edges.sentence(II, "CLAUSE: ((\"looks\" | \"lets\" | \"asks\" | \"ranks\") SUM | \"bars\") [\"if\" TEST]", """
                law looks -> fault 5
                law lets -> fault 4
                law asks -> fault 4
                law ranks -> fault 5
                law bars -> 0
                law looks 1 -> 1
                law lets 1 if 1=1 -> 2
                law asks 1 -> 3
                law ranks 1 -> 4
                law bars if 1=1 -> 5
                new
                law bars 1 -> fault 5
                law looks if 1=1 -> fault 6
                law lets if 1=1 -> fault 5
                law if 1=1 -> fault 0
                law 1 -> fault 0
                law looks 1 if -> fault 10
                law 'looks 1 if  ' -> fault 12
                law looks 1 if if -> fault 11
                law looks 1 if 1=1 if 1=1 -> fault 15
                law looks 1 looks 1 -> fault 8
                law looks looks -> fault 6
                law bars bars -> fault 5
                law look 1 -> fault 0
                law lookss 1 -> fault 0
                law likest 1 -> fault 0
                law paint likest -> fault 0
                law copy -> fault 0
                """);
        Edges.sentence(II, "TEST: BOTH {\"or\" BOTH}. BOTH: PLAIN {\"and\" PLAIN}", """
                law bars if or 1=1 -> fault 8
                law bars if and 1=1 -> fault 8
                law bars if 1=1 or -> fault 14
                law bars if 1=1 and -> fault 15
                law bars if 1=1 or or 1=1 -> fault 15
                law bars if 1=1 and or 1=1 -> fault 16
                law bars if 1=1 1=1 -> fault 12
                law bars if 1=1 or 1=1 or 1=1 and 1=1 and 1=1 -> 0
                """,
                "image(0)",
                holds("1=1 or 1=1 and 1=2", true),
                holds("1=2 and 1=1 or 1=1", true),
                holds("(1=1 or 1=1) and 1=2", false),
                holds("1=2 and (1=1 or 1=1)", false),
                holds("1=2 or 1=2", false),
                holds("1=2 or 1=2 or 1=1", true),
                holds("1=1 and 1=1 and 1=2", false),
                holds("1=1 and 1=1 and 1=1", true));
        Edges.sentence(II, "PLAIN: \"not\" PLAIN | \"(\" TEST \")\" | SUM (\"<\" | \">\" | \"=\") SUM", """
                law bars if not -> fault 11
                law bars if not not -> fault 15
                law bars if () -> fault 9
                law bars if (1=1 -> fault 12
                law bars if (1=1] -> fault 12
                law bars if (1) = 1 -> fault 10
                law bars if 1=1) -> fault 11
                law bars if 1 -> fault 9
                law bars if 1 < -> fault 11
                law bars if < 1 -> fault 8
                law bars if 1 < 2 < 3 -> fault 14
                law bars if 1 < (2) -> fault 12
                law bars if 1 ! 2 -> fault 10
                law bars if [1] = [1] -> 0
                """,
                "law bars if " + Edges.many("not", " ", 95) + " 1=1 -> 1",
                "image(0)",
                holds("1<2", true), holds("2<2", false), holds("3<2", false),
                holds("2>1", true), holds("2>2", false), holds("2>3", false),
                holds("2=2", true), holds("2=3", false), holds("3=2", false),
                holds("not 1=2", true), holds("not 1=1", false), holds("not not 1=1", true),
                holds("not 1=1 or 1=1", true), holds("not (1=1 or 1=1)", false),
                holds("not 1=2 and 1=2", false), holds("not (1=2 and 1=2)", true),
                holds("not 1=1 and 1=1", false), holds("not (not 1=1)", true), holds("not (not 1=2)", false),
                holds("2<1 and 1=1", false), holds("1>2 and 1=1", false), holds("1=2 and 1=1", false),
                holds("not 2<1", true), holds("not 1>2", true), holds("not 1<2", false),
                holds("not 2>1", false), holds("1<2 or 1/0=1", true), holds("2>1 or 1/0=1", true));
        Edges.sentence(II, "SUM: TERM {(\"+\" | \"-\") TERM}. TERM: PART {(\"*\" | \"/\") PART}", """
                law looks + 1 -> fault 6
                law looks -1 -> fault 6
                law looks * 1 -> fault 6
                law looks 1 + -> fault 9
                law looks 1 * -> fault 9
                law looks 1 + * 1 -> fault 10
                law looks 1 - - 1 -> fault 10
                law looks 1 ( -> fault 8
                law looks (1) -> fault 6
                law looks [1 -> fault 8
                law looks [1) -> fault 8
                law looks [] -> fault 7
                law looks 1] -> fault 7
                image(0)
                """,
                looks("1+2*3", 7), looks("[1+2]*2", 6), looks("9-4-3", 2), looks("9-[4-3]", 8),
                looks("8/4/2", 1), looks("8/[4/2]", 4), looks("7/2*2", 6), looks("2*7/3", 4),
                looks("9-2*3+1", 4), looks("1-1+1", 1));
    }

    private static void numbers() {
        Edges.sentence(II, "PART: NUMBER (to 1,000)", """
                law looks 1001 -> fault 6
                law looks 1 + 1001 -> fault 10
                law looks 0001001 -> fault 6
                law looks 10000 -> fault 6
                law looks 4294967296 -> fault 6
                law looks 4294967297 -> fault 6
                law looks 18446744073709551617 -> fault 6
                law looks 99999999999999999999999999999999999999 -> fault 6
                law bars if 1 = 1001 -> fault 12
                image(0)
                """,
                looks("1000-995", 5), looks("1000/1000", 1), looks("0", 0), looks("999-995", 4),
                looks("00000000000000000000000000000000004", 4), looks("0001000-0995", 5));
        Edges.sentence(II, "| \"[\" SUM \"]\" | \"cell\" | \"age\" | \"year\" | \"painter\" | \"price\" | \"mood\" | \"claimant\" | \"born\" | \"near\" | \"children\"", """
                law looks cell + age + year + painter + price -> 0
                law looks mood + claimant + born + near + children -> 1
                law looks [cell] -> 2
                law looks years -> fault 6
                law looks unlike -> fault 6
                law looks money -> fault 6
                law looks copies -> fault 6
                law looks done -> fault 6
                law looks tone -> fault 6
                law looks tone 1 -> fault 6
                law looks cells -> fault 6
                law looks child -> fault 6
                law looks if -> fault 6
                law looks not -> fault 6
                law looks times -> fault 6
                """);
    }

    private static void parts() {
        Edges.sentence(II, "50 PARTS that are NUMBERS and words (FAULT at the 51st) .. at most",
                "law looks " + Edges.many("1", "+", 50) + " -> 0",
                "law looks " + Edges.many("1", "+", 51) + " -> fault 106",
                "law looks " + Edges.many("age", "+", 50) + " -> 1",
                "law looks " + Edges.many("age", "+", 51) + " -> fault 206",
                "law looks " + Edges.many("1", "+", 49) + "+age -> 2",
                "law looks " + Edges.many("1", "+", 50) + "+age -> fault 106",
                "law looks " + Edges.many("[1]", "+", 50) + " -> 3",
                "law looks " + Edges.many("[1]", "+", 50) + "+[1] -> fault 207",
                "law looks " + Edges.many("1", "+", 50) + "+! -> fault 106",
                "law looks " + Edges.many("1", "+", 50) + " if 1=1 -> fault 109",
                "law looks " + Edges.many("1", "+", 48) + " if 1=1 -> 4",
                "law looks " + Edges.many("1", "+", 49) + " if 1=1 -> fault 109",
                "law looks " + Edges.many("1", "+", 50) + ";looks 1 -> fault 112",
                "law looks " + Edges.many("1", "+", 49) + ";looks 1 -> 5",
                "count(1) -> 6",
                "new",
                "law bars if " + Edges.many("1=1", " or ", 25) + " -> 0",
                "law bars if " + Edges.many("1=1", " or ", 25) + " or 1=1 -> fault 183",
                "rules looks " + Edges.many("1", "-", 49) + "+55",
                "looks(0, 0, 0) -> 8");
        Edges.sentence(II, "50 PARTS: of the whole TEXT, words of CLAUSES and of TESTS are none",
                "law " + Edges.many("looks 1 if not not 1=1", ";", 12) + " -> 0",
                "law " + Edges.many("looks 1+1 if 1=1", ";", 12) + ";bars -> fault 204",
                "law " + Edges.many("looks 1+1 if 1=1", ";", 12) + " -> 1",
                "law " + Edges.many("looks 1+1+1 if 1=1", ";", 10) + " -> 2",
                "law " + Edges.many("looks 1+1+1 if 1=1", ";", 10) + ";looks 1 -> fault 196");
    }

    private static void brackets() {
        Edges.sentence(II, "8 brackets of both kinds within one another (FAULT at the 9th) at most",
                "rules looks [[[[[[[[7]]]]]]]]\nlooks(0, 0, 0) -> 7",
                "law looks [[[[[[[[[7]]]]]]]]] -> fault 14",
                "law looks 1+[[[[[[[[[7]]]]]]]]] -> fault 16",
                "law bars if ((((((((1=1)))))))) -> 1",
                "law bars if (((((((((1=1))))))))) -> fault 16",
                "law bars if (((([[[[1]]]]=1)))) -> 2",
                "law bars if (((([[[[[1]]]]]=1)))) -> fault 16",
                "law bars if (((((((([1]=1)))))))) -> fault 16",
                "law bars if (((((((1=[1]))))))) -> 3",
                "law bars if ((((((((1=[1])))))))) -> fault 18",
                "law bars if [[[[[[[[[1]]]]]]]]]=1 -> fault 16",
                "law bars if [[[[[[[[1]]]]]]]]=[[[[[[[[1]]]]]]]] -> 4",
                "law bars if [[[[[[[[1]]]]]]]]=[[[[[[[[[1]]]]]]]]] -> fault 34");
        Edges.sentence(II, "8 brackets .. within one another: others stand beside one another",
                "law looks " + Edges.many("[1]", "+", 20) + " -> 0",
                "law bars if " + Edges.many("(1=1)", " or ", 20) + " -> 1",
                "law looks [[[[[[[[1]]]]]]]]+[[[[[[[[1]]]]]]]] -> 2",
                "law bars if ((((((((1=1)))))))) and ((((((((1=1)))))))) -> 3",
                "law looks [[[[[[[[1]]]]]]]];looks [[[[[[[[1]]]]]]]] -> 4");
    }

    private static void faults() {
        Edges.sentence(II, "FAULT: the first TOKEN that can't go on there (the end's: the TEXT's length)", """
                law '' -> fault 0
                law ' ' -> fault 1
                law '     ' -> fault 5
                law 'looks' -> fault 5
                law 'looks  ' -> fault 7
                law looks 1 + -> fault 9
                law 'looks 1 + ' -> fault 10
                law looks ! ! -> fault 6
                law looks 1 1 1 -> fault 8
                law looks 1; look 2; look 3 -> fault 9
                law '  !' -> fault 2
                orders '' -> fault 0
                orders '  ' -> fault 2
                orders 'copy;' -> fault 5
                orders 'copy; ' -> fault 6
                orders copy; copi; copi -> fault 6
                """);
    }

    private static void askedOf() {
        String people = "painter(1, 8)\npainter(1, 9)\ncopy()\ntouch(0, 0, 1)\nterms(2, 4)\n"
                + "claimant(NONE, 3, 90, 0)\nclaimant(0, 5, 90, NONE)\nclaimant(0, 6, 90, 0)\n"
                + "claimant(0, 5, 90, 1)\nimage(0)\n";
        Edges.sentence(II, "It is asked in a YEAR of a CELL (cell, age: the sitter's)", people,
                "rules looks cell; lets cell - 2\nlooks(0, 0, 0) -> 0\nlooks(9, 0, 0) -> 9",
                "looks(11, 0, 0) -> 9\nlooks(11, 0, 1) -> 9\nlooks(5, 0, 1) -> 3\nback(0)",
                "rules looks age - 25; lets age - 26\nlooks(0, 31, 0) -> 9\nlooks(0, 6, 0) -> 1",
                "looks(0, 7, 0) -> 2\nlooks(0, 7, 1) -> 1\nback(0)",
                "rules looks year; lets year - 1\nlooks(0, 8, 1) -> 7\nlooks(0, 0, 0) -> 0\nlooks(0, 9, 0) -> 9",
                "looks(0, 9, 1) -> 8\nlooks(0, 5, 1) -> 4\nasks(0, 3, 0)\nlooks(0, 6, 1) -> 5\nback(0)",
                "rules lets age-20 if painter=0-1 and claimant=0-1\nasks(0, 3, 0)\nstands(0, 3, 1)\nlooks(4, 5, 1) -> 5");
        Edges.sentence(II, "It is asked in a YEAR .. of a PAINTER (painter, price, age: the sitter's)", people,
                "rules asks 100*painter + price + 5\nasks(0, 0, 0) -> 13\nasks(1, 0, 0) -> 114\nback(0)",
                "rules asks age\nasks(0, 0, 0) -> 20\nasks(1, 99, 0) -> 119\nback(0)",
                "rules asks year; bars if year=5 and painter=1\nasks(0, 0, 0) -> 0\nasks(0, 99, 0) -> 99",
                "asks(1, 5, 1) -> 1\nasks(0, 5, 1) -> 0\nasks(1, 4, 1) -> 0\nasks(1, 6, 1) -> 0");
        Edges.sentence(II, "of a CLAIMANT (claimant, born, age: YEAR less BORN, near: NEAR of the COPY, -1 without, children: ..)", people,
                "rules ranks claimant*100\nstands(0, 0, 1) -> 0\nstands(3, 0, 1) -> 300\nback(0)",
                "rules ranks born\nstands(0, 0, 1) -> 3\nstands(2, 0, 1) -> 6\nback(0)",
                "rules ranks age + 10\nstands(0, 0, 1) -> 7\nstands(0, 3, 1) -> 10\nstands(0, 99, 1) -> 106\nback(0)",
                "rules ranks near + 10\nstands(0, 0, 1) -> 11\nstands(1, 0, 1) -> 9\nstands(2, 0, 1) -> 11",
                "stands(3, 0, 1) -> 9\ncopy()\nstands(3, 0, 1) -> 10\npaint(0)\nstands(3, 0, 1) -> 22\nstands(0, 0, 1) -> 21\nback(0)",
                "rules ranks children\nstands(0, 4, 1) -> 0\nstands(0, 5, 1) -> 2\nstands(0, 6, 1) -> 3\nstands(0, 89, 1) -> 3",
                "stands(0, 90, 1) -> 0\nstands(1, 6, 1) -> 0\nback(0)",
                "rules ranks year; bars if year=5\nstands(0, 99, 1) -> 99\nstands(0, 0, 1) -> 0\nstands(0, 5, 2) -> 1",
                "stands(0, 4, 2) -> 0\nstands(0, 6, 2) -> 0");
        Edges.sentence(II, "mood always", people,
                "rules looks mood; lets mood; asks mood; ranks mood; bars if mood=4",
                "looks(0, 0, 0) -> 4\nlooks(0, 0, 1) -> 4\nasks(0, 0, 0) -> 4\nstands(0, 5, 1) -> 4",
                "asks(0, 0, 1) -> 1\nstands(0, 0, 2) -> 1");
        unnamed(people, "looks 5", "lets 6", "looks(0, 7, 0) -> 5\nlooks(0, 7, 1) -> 6",
                "painter", "price", "claimant", "born", "near", "children");
        unnamed(people, "asks 55", "bars", "asks(1, 7, 0) -> 55\nasks(1, 7, 1) -> 1",
                "cell", "claimant", "born", "near", "children");
        unnamed(people, "ranks 55", "bars", "stands(2, 7, 1) -> 55\nstands(2, 7, 2) -> 1",
                "cell", "painter", "price");
    }

    private static void unnamed(String people, String one, String other, String asks, String... words) {
        for (String word : words) {
            String test = " if " + word + "=0-1";
            Edges.sentence(II, "what is not named here is -1 (" + one + " of " + word + ")", people,
                    "rules " + one + test + ";" + other + test, asks);
        }
    }

    private static void broken() {
        Edges.sentence(II, "Beyond 1,000,000,000 either way .. a SUM .. is BROKEN", "image(0)",
                looks("[" + MILLIARD + "]*0+5", 5),
                looks("[" + MILLIARD + "+0]*0+5", 5),
                looks("[" + MILLIARD + "+1]*0+5", 3),
                looks("[" + MILLIARD + "-1+1]*0+5", 5),
                looks("[" + MILLIARD + "-1+2]*0+5", 3),
                looks("[0-" + MILLIARD + "]*0+5", 5),
                looks("[0-" + MILLIARD + "-1]*0+5", 3),
                looks("[0-" + MILLIARD + "+1-1]*0+5", 5),
                looks("[" + MILLIARD + "*1]*0+5", 5),
                looks("[" + MILLIARD + "*2]*0+5", 3),
                looks("[" + MILLIARD + "*[0-1]]*0+5", 5),
                looks("[" + MILLIARD + "*[0-2]]*0+5", 3),
                looks("[" + MILLIARD + "/1]*0+5", 5),
                looks("[" + MILLIARD + "]/[" + MILLIARD + "]+5", 6));
        Edges.sentence(II, "Beyond 1,000,000,000: also where the number would come round", "image(0)",
                looks("[256*256]*[256*256]*0+5", 3),
                looks("[256*256*128]*[256*2]*0+5", 3),
                looks("[" + MILLIARD + "]*[" + MILLIARD + "]*0+5", 3),
                looks("[0-" + MILLIARD + "]*[" + MILLIARD + "]*0+5", 3),
                looks(Edges.many("1000", "*", 22) + "*0+5", 3),
                looks("[" + MILLIARD + "]+[" + MILLIARD + "]-[" + MILLIARD + "]", 3),
                looks("0-[" + MILLIARD + "]-[" + MILLIARD + "]+[" + MILLIARD + "]+[" + MILLIARD + "]+5", 3));
        Edges.sentence(II, "Beyond 1,000,000,000 either way .. a TEST is BROKEN", "image(0)",
                holds(MILLIARD + ">0", true), holds(MILLIARD + "+1>0", false),
                holds("not " + MILLIARD + "+1<0", false), holds("not " + MILLIARD + "<0", true),
                holds("0-" + MILLIARD + "<0", true), holds("0-" + MILLIARD + "-1<0", false),
                holds("0<" + MILLIARD, true), holds("0<" + MILLIARD + "+1", false),
                holds("0-" + MILLIARD + "<" + MILLIARD, true),
                holds(MILLIARD + ">0-" + MILLIARD, true),
                holds(MILLIARD + "=" + MILLIARD, true));
        Edges.sentence(II, "divided by 0, a SUM, a TEST is BROKEN", "image(0)",
                looks("5/0", 3), looks("0/0", 3), looks("5/[1-1]", 3), looks("5+1/0", 3),
                looks("0*[1/0]+5", 3), looks("1/0*0+5", 3), looks("0/5", 0), looks("5/1", 5),
                looks("5/[0-1]+9", 4), looks("5/cell", 3),
                holds("1/0=1", false), holds("not 1/0=1", false), holds("1=1/0", false),
                holds("0/1=0", true));
        Edges.sentence(II, "/ is cut towards 0", "image(0)",
                looks("7/2", 3), looks("[0-7]/2+5", 2), looks("7/[0-2]+5", 2), looks("[0-7]/[0-2]", 3),
                looks("[0-1]/2+5", 5), looks("1/2+5", 5), looks("[0-6]/2+5", 2), looks("[0-1]/1000+5", 5),
                looks("999/1000", 0), looks("1000/999", 1));
    }

    private static void holding() {
        Edges.sentence(II, "A CLAUSE HOLDS, if its \"if\" (if it has one) is so, and neither that nor its SUM is BROKEN",
                "image(0)",
                looks("5", 5), looks("5 if 1=1", 5), looks("5 if 1=2", 3), looks("5 if 1/0=1", 3),
                looks("5 if not 1/0=1", 3), looks("1/0", 3), looks("1/0 if 1=1", 3), looks("1/0 if 1=2", 3),
                looks("5; looks 6 if 1=2", 5), looks("5; looks 1/0", 5), looks("5; lets 1", 5),
                looks("5; looks 6", 6));
        Edges.sentence(II, "(\"or\" .. ask what stands behind only if it can still matter", "image(0)",
                holds("1=1 or 1/0=1", true),
                holds("1=2 or 1/0=1", false),
                holds("1=1 or 1/0=1 or 1/0=1", true),
                holds("1=2 or 1=1 or 1/0=1", true),
                holds("not (1=1 or 1/0=1)", false),
                holds("1=1 or 1=1 and 1/0=1", true),
                holds("1=1 or not 1/0=1", true),
                holds("(1=1 or 1/0=1) and 1=1", true));
        Edges.sentence(II, "(.. \"and\" ask what stands behind only if it can still matter", "image(0)",
                holds("not (1=2 and 1/0=1)", true),
                holds("not (1=1 and 1/0=1)", false),
                holds("1=2 and 1/0=1 or 1=1", true),
                holds("1=1 and 1=2 and 1/0=1 or 1=1", true),
                holds("1=2 and 1/0=1 and 1/0=1 or 1=1", true),
                holds("1=2 and not 1/0=1 or 1=1", true));
        Edges.sentence(II, "a part that was asked and is BROKEN makes all of it BROKEN)", "image(0)",
                holds("1/0=1 or 1=1", false),
                holds("not (1/0=1 and 1=2)", false),
                holds("1=2 or 1/0=1 or 1=1", false),
                holds("1=1 and 1/0=1 or 1=1", false),
                holds("1=1 and (1/0=1 or 1=1)", false),
                holds("not not 1/0=1 or 1=1", false),
                holds("(1=1 and 1/0=1) or 1=1", false));
    }

    private static void answers() {
        Edges.sentence(II, "A CELL LOOKS in a YEAR (0 .. 99) as the SCAR of it tells that came latest by then", """
                rules looks 4
                scar(2, 5, 1)
                scar(2, 3, 8)
                scar(1, 4, 7)
                looks(2, 2, 0) -> 4
                looks(2, 3, 0) -> 8
                looks(2, 4, 0) -> 8
                looks(2, 5, 0) -> 1
                looks(2, 99, 0) -> 1
                looks(2, 100, 0) -> NONE
                looks(2, -1, 0) -> NONE
                looks(3, 5, 0) -> 4
                scar(2, 0, 0)
                looks(2, 0, 0) -> 0
                looks(2, 2, 0) -> 0
                looks(2, 3, 0) -> 8
                """);
        Edges.sentence(II, "(of alike YEARS that told later)", """
                scar(2, 5, 9)
                scar(2, 5, 3)
                scar(2, 4, 7)
                looks(2, 5, 0) -> 3
                scar(2, 5, 0)
                looks(2, 5, 0) -> 0
                looks(2, 4, 0) -> 7
                heal(3) -> 3
                looks(2, 5, 0) -> 3
                """);
        Edges.sentence(II, "else as the last \"looks\" that HOLDS tells, 0 .. 9 (else the nearest)",
                "image(0)",
                looks("0-1", 0), looks("0", 0), looks("9", 9), looks("10", 9), looks("1000", 9),
                looks("0-1000", 0), looks(MILLIARD, 9), looks("0-" + MILLIARD, 0),
                looks("1; looks 2; looks 4 if 1=2; lets 8", 2), looks("1; looks 1/0; looks 6/0", 1));
        Edges.sentence(II, "else as AGE then divided by 10, 9 at most", """
                terms(0, 0)
                looks(0, 9, 0) -> 0
                looks(0, 10, 0) -> 1
                looks(0, 19, 0) -> 1
                looks(0, 20, 0) -> 2
                looks(0, 89, 0) -> 8
                looks(0, 90, 0) -> 9
                looks(0, 99, 0) -> 9
                terms(0, 1)
                looks(0, 98, 0) -> 9
                looks(0, 99, 0) -> 9
                terms(0, 99)
                terms(1, 5)
                looks(0, 0, 0) -> 9
                looks(0, 1, 0) -> 9
                looks(0, 99, 0) -> 9
                rules looks 5 if cell=3
                looks(2, 0, 0) -> 9
                looks(3, 0, 0) -> 5
                """);
        Edges.sentence(II, "It LETS the TONE be so far from that as \"lets\" tells, 0 .. 9, 9 without", """
                looks(0, 0, 1) -> 9
                rules lets 0-1; lets 0 if cell=1; lets 9 if cell=2; lets 10 if cell=3; lets 1/0 if cell=4
                looks(0, 0, 1) -> 0
                looks(1, 0, 1) -> 0
                looks(2, 0, 1) -> 9
                looks(3, 0, 1) -> 9
                looks(4, 0, 1) -> 0
                rules lets 4 if cell=1; looks 3; asks 5
                looks(0, 0, 1) -> 9
                looks(1, 0, 1) -> 4
                """);
        Edges.sentence(II, "A PAINTER ASKS what \"asks\" tells, 0 .. 999, his PRICE without",
                Edges.each(0, 4, "painter(1, 7#)"), """
                asks(0, 0, 0) -> 70
                rules asks 5 if painter=4; asks 0-1 if painter=0; asks 0 if painter=1; asks 999 if painter=2; asks 1000 if painter=3
                asks(0, 0, 0) -> 0
                asks(1, 0, 0) -> 0
                asks(2, 0, 0) -> 999
                asks(3, 0, 0) -> 999
                asks(4, 0, 0) -> 5
                rules asks 5 if painter=4; asks 1/0; looks 3
                asks(3, 0, 0) -> 73
                asks(4, 0, 0) -> 5
                """);
        Edges.sentence(II, "A CLAIMANT RANKS as \"ranks\" tells, 0 .. 999, without: as the number of the CLAIMANT",
                Edges.each(0, 7, "claimant(NONE, 0, 9, NONE)"), """
                stands(0, 0, 1) -> 0
                stands(7, 0, 1) -> 7
                rules ranks 5 if claimant=4; ranks 0-1 if claimant=0; ranks 0 if claimant=1; ranks 999 if claimant=2; ranks 1000 if claimant=3
                stands(0, 0, 1) -> 0
                stands(1, 0, 1) -> 0
                stands(2, 0, 1) -> 999
                stands(3, 0, 1) -> 999
                stands(4, 0, 1) -> 5
                stands(5, 0, 1) -> 5
                stands(7, 0, 1) -> 7
                rules ranks 1/0; asks 3
                stands(6, 0, 1) -> 6
                """);
        Edges.sentence(II, "Both are BARRED in a YEAR, if \"bars\" HOLDS", """
                painter(1, 0)
                claimant(NONE, 0, 9, NONE)
                asks(0, 5, 1) -> 0
                stands(0, 5, 2) -> 0
                rules bars if year=5
                asks(0, 4, 1) -> 0
                asks(0, 5, 1) -> 1
                asks(0, 6, 1) -> 0
                stands(0, 4, 2) -> 0
                stands(0, 5, 2) -> 1
                stands(0, 6, 2) -> 0
                rules bars
                asks(0, 0, 1) -> 1
                stands(0, 99, 2) -> 1
                rules bars if 1/0=1; bars if not 1/0=1; bars if 1=2
                asks(0, 0, 1) -> 0
                stands(0, 0, 2) -> 0
                rules bars; bars if 1=2
                asks(0, 0, 1) -> 1
                stands(0, 0, 2) -> 1
                rules bars if painter=0
                asks(0, 0, 1) -> 1
                stands(0, 0, 2) -> 0
                rules bars if claimant=0
                asks(0, 0, 1) -> 0
                stands(0, 0, 2) -> 1
                """);
    }

    /** The second language. */
    private static final class Orders {
        static void all() {
            room();
            grammar();
            times();
            tones();
            parts();
            wanted();
            words();
            paints();
            touches();
            wholly();
        }

        static void room() {
            Edges.sentence(II, "ORDER {\";\" ORDER}, 12 at most (FAULT likewise)",
                    "painter(1, 0)",
                    "orders " + Edges.many("paint by 0", ";", 12) + " -> 12",
                    "count(3) -> 12",
                    "orders " + Edges.many("scrape", ";", 13) + " -> fault 84",
                    "count(3) -> 12",
                    "orders '" + Edges.many("scrape", ";", 12) + ";  scrape' -> fault 86",
                    "orders '" + Edges.many("scrape", ";", 12) + ";' -> fault 84",
                    "orders '" + Edges.many("scrape", ";", 12) + "; ' -> fault 85",
                    "orders '" + Edges.many("scrape", ";", 12) + ";!' -> fault 84",
                    "orders " + Edges.many("scrape", ";", 11) + ";scrap;scrape -> fault 77",
                    "orders " + Edges.many("scrape times 20 if years>9", ";", 12) + " -> 3",
                    "count(3) -> 9",
                    "orders " + Edges.many("scrape if 1=2", ";", 11) + ";scrape -> 1",
                    "count(3) -> 8");
        }

        static void grammar() {
            Edges.sentence(II, "ORDER: (\"paint\" (\"likest\" | \"cheapest\" | \"by\" SUM) | \"scrape\" | \"copy\" | ..", """
                    painter(1, 0)
                    orders paint -> fault 5
                    orders paint paint -> fault 6
                    orders paint 0 -> fault 6
                    orders paint by -> fault 8
                    orders paint by; copy -> fault 8
                    orders paint likest 1 -> fault 13
                    orders paint cheapest 1 -> fault 15
                    orders paint like -> fault 6
                    orders paint likest cheapest -> fault 13
                    orders likest -> fault 0
                    orders by 0 -> fault 0
                    orders scrape 1 -> fault 7
                    orders copy 1 -> fault 5
                    orders copy copy -> fault 5
                    orders looks 1 -> fault 0
                    orders bars -> fault 0
                    orders paint likest -> 1
                    orders paint cheapest -> 1
                    orders paint by 0 -> 1
                    orders scrape -> 1
                    orders copy -> 1
                    """);
            Edges.sentence(II, "| \"touch\" SUM \"at\" SUM \"with\" SUM)", """
                    copy()
                    orders touch -> fault 5
                    orders touch at 1 -> fault 6
                    orders touch 0 -> fault 7
                    orders touch 0 with 1 -> fault 8
                    orders touch 0 at -> fault 10
                    orders touch 0 at 1 -> fault 12
                    orders touch 0 at 1 at 1 -> fault 13
                    orders touch 0 at 1 with -> fault 17
                    orders touch 0 at 1 with 2 with 3 -> fault 20
                    orders touch 0 at 1 with 2 -> 1
                    touch(0, 1, 0) -> 2
                    """);
            Edges.sentence(II, "[\"times\" TIMES] [\"if\" TEST]", """
                    painter(1, 0)
                    copy()
                    orders copy times 1 if 1=2 -> 0
                    orders copy if 1=2 times 1 -> fault 12
                    orders copy times 1 times 1 -> fault 13
                    orders copy if 1=2 if 1=2 -> fault 12
                    orders copy if -> fault 7
                    orders copy times -> fault 10
                    orders copy times if 1=1 -> fault 11
                    orders paint by 0 times 2 if 1=1 -> 2
                    orders paint likest times 2 if 1=1 -> 2
                    orders paint cheapest times 2 if 1=1 -> 2
                    orders scrape times 2 if 1=1 -> 2
                    orders touch 0 at 0 with 1 times 2 if 1=1 -> 2
                    orders if 1=1 -> fault 0
                    orders times 1 -> fault 0
                    """);
        }

        static void times() {
            Edges.sentence(II, "TIMES: a NUMBER 1 .. 20", """
                    copy()
                    orders touch 0 at 0 with 1 times 0 -> fault 26
                    orders touch 0 at 0 with 1 times 1 -> 1
                    orders touch 0 at 0 with 1 times 20 -> 20
                    orders touch 0 at 0 with 1 times 21 -> fault 26
                    orders touch 0 at 0 with 1 times 020 -> 20
                    orders touch 0 at 0 with 1 times 00 -> fault 26
                    orders touch 0 at 0 with 1 times 100 -> fault 26
                    orders touch 0 at 0 with 1 times 4294967297 -> fault 26
                    orders touch 0 at 0 with 1 times years -> fault 26
                    orders touch 0 at 0 with 1 times [1] -> fault 26
                    orders touch 0 at 0 with 1 times 1+1 -> fault 27
                    orders touch 0 at 0 with 1 times -1 -> fault 26
                    """);
        }

        static void tones() {
            Edges.sentence(II, "\"tone\" C (C: a NUMBER 0 .. 11)", """
                    copy()
                    first(0, 3)
                    first(11, 4)
                    orders touch 0 at 0 with tone 0 -> 1
                    touch(0, 0, 0) -> 3
                    orders touch 0 at 0 with tone 11 -> 1
                    touch(0, 0, 0) -> 4
                    orders touch 0 at 0 with tone 12 -> fault 23
                    orders touch 0 at 0 with tone 100 -> fault 23
                    orders touch 0 at 0 with tone 4294967296 -> fault 23
                    orders touch 0 at 0 with tone -> fault 22
                    orders touch 0 at 0 with tone age -> fault 23
                    orders touch 0 at 0 with tone [0] -> fault 23
                    orders touch 0 at 0 with tone0 -> 1
                    orders touch 0 at 0 with tone 0011 -> 1
                    touch(0, 0, 0) -> 4
                    orders touch 0 at 0 with tone tone 0 -> fault 23
                    orders touch 0 at 0 with tone 0 0 -> fault 25
                    """);
        }

        static void parts() {
            Edges.sentence(II, "PART: NUMBER (to 1,000) | \"[\" SUM \"]\" | \"years\" | \"unlike\" | \"money\" | \"copies\" | \"age\" | \"done\" | \"tone\" C", """
                    copy()
                    orders copy if 1000=1001 -> fault 13
                    orders copy if 1000=999 -> 0
                    orders copy if [1]=[2] -> 0
                    orders copy if years+unlike+money+copies+age+done+tone 1<0 -> 0
                    orders copy if cell=0 -> fault 8
                    orders copy if year=0 -> fault 8
                    orders copy if painter=0 -> fault 8
                    orders copy if price=0 -> fault 8
                    orders copy if mood=0 -> fault 8
                    orders copy if claimant=0 -> fault 8
                    orders copy if born=0 -> fault 8
                    orders copy if near=0 -> fault 8
                    orders copy if children=0 -> fault 8
                    orders copy if tones=0 -> fault 8
                    """);
            Edges.sentence(II, "NUMBERS (TIMES, C aside) and words (those alone) count as PARTS",
                    "painter(1, 0)",
                    "orders paint by 0*[" + Edges.many("1", "+", 49) + "] -> 1",
                    "orders paint by 0*[" + Edges.many("1", "+", 50) + "] -> fault 110",
                    "orders paint by 0*[" + Edges.many("1", "+", 49) + "] times 2 -> 2",
                    "orders paint by 0*[" + Edges.many("years", "+", 49) + "] -> 1",
                    "orders paint by 0*[" + Edges.many("years", "+", 50) + "] -> fault 306",
                    "orders paint by 0*[" + Edges.many("tone0", "+", 49) + "] -> 1",
                    "orders paint by 0*[" + Edges.many("tone0", "+", 50) + "] -> fault 306",
                    "orders paint by 0*[" + Edges.many("tone0", "+", 49) + "+tone12] -> fault 306",
                    "orders paint by 0*[" + Edges.many("tone0", "+", 48) + "+tone12] -> fault 304",
                    "orders " + Edges.many("scrape times 20 if 1+1=1+years", ";", 12) + " -> 0",
                    "orders " + Edges.many("scrape times 20 if 1+1=1+1+1", ";", 10) + " -> 0",
                    "orders " + Edges.many("scrape times 20 if 1+1=1+1+1", ";", 10) + ";paint by 0 -> fault 299",
                    "orders " + Edges.many("scrape times 20 if 1+1=1+1+1", ";", 10) + ";paint likest times 1 -> 1");
            Edges.sentence(II, "TEST, SUM as above: 8 brackets", """
                    painter(1, 0)
                    orders paint by [[[[[[[[0]]]]]]]] -> 1
                    orders paint by [[[[[[[[[0]]]]]]]]] -> fault 17
                    orders scrape if ((((([[[1]]]=1))))) -> 1
                    orders scrape if ((((([[[[1]]]]=1))))) -> fault 18
                    orders touch 0 at [[[[[[[[[0]]]]]]]]] with 1 -> fault 19
                    orders touch 0 at 0 with [[[[[[[[[0]]]]]]]]] -> fault 26
                    """);
        }

        static void wanted() {
            Edges.sentence(II, "each as often as TIMES tell (once without)", """
                    painter(1, 0)
                    orders paint by 0 -> 1
                    count(3) -> 1
                    orders paint by 0 times 1 -> 1
                    count(3) -> 2
                    orders paint by 0 times 5; scrape times 2 -> 7
                    count(3) -> 5
                    """);
            Edges.sentence(II, "each time \"if\" is asked (not run, if it is not so or BROKEN)", """
                    orders copy times 20 if copies<3 -> 3
                    orders copy times 20 if copies=9 -> 0
                    orders copy if 1/0=1 -> 0
                    orders copy if not 1/0=1 -> 0
                    orders copy if 1000*1000*1000+1>0 -> 0
                    orders copy if 1=1 or 1/0=1 -> 1
                    orders copy if 1/0=1 or 1=1 -> 0
                    orders touch 0 at 0 with done times 4 if done=1 or done=0 -> 2
                    touch(0, 0, 0) -> 1
                    count(4) -> 4
                    """);
            Edges.sentence(II, "then SUMS from the left: a BROKEN one matters only if it is run", """
                    copy()
                    orders touch 1/0 at 0 with 0 if 1=2 -> 0
                    orders paint by 1/0 if 1=2 -> 0
                    orders paint by 1/0 if 1/0=1 -> 0
                    orders touch 1/0 at 0 with 0 -> refused -3 by 0
                    orders touch 0 at 1/0 with 0 -> refused -3 by 0
                    orders touch 0 at 0 with 1/0 -> refused -3 by 0
                    orders touch 0 at 0 with 1 if 1=1 -> 1
                    touch(0, 0, 0) -> 1
                    """);
        }

        static void words() {
            Edges.sentence(II, "years: how many are painted", """
                    painter(1, 0)
                    orders copy if years=0 -> 1
                    orders paint by 0 times 20 if years<16 -> 16
                    orders copy if years=16 -> 1
                    orders scrape times 20 if years>0 -> 16
                    """);
            Edges.sentence(II, "unlike: of what is SEEN in the YEAR of its LAYER", """
                    painter(1, 0)
                    rules looks year*3
                    orders copy if unlike=0 -> 1
                    paint(0) -> 24
                    orders copy if unlike=24 -> 1
                    forge(1, 0, 3)
                    orders copy if unlike=22 -> 1
                    """);
            Edges.sentence(II, "money: MONEY then", """
                    painter(1, 30)
                    orders copy if money=0 -> 1
                    orders paint by 0 times 3; copy if money=210 -> 4
                    terms(3, 20)
                    orders copy if money=0-30 -> 1
                    """);
            Edges.sentence(II, "copies: how many", """
                    orders copy if copies=0 -> 1
                    orders copy times 20 if copies<6 -> 5
                    orders touch copies-1 at 0 with 1 if copies=6 -> 1
                    """);
            Edges.sentence(II, "age: the sitter's in that YEAR", """
                    painter(1, 0)
                    terms(1, 5)
                    orders copy if age=20 -> 1
                    orders paint by 0 times 2; copy if age=26 -> 3
                    """);
            Edges.sentence(II, "done: how many ORDERS were run in this TEXT (each time counts)", """
                    orders copy if done=0; copy if done=1; copy if 1=2; copy if done=2 -> 3
                    orders touch 0 at done with done times 9 -> 9
                    touch(0, 0, 0) -> 0
                    touch(0, 8, 0) -> 8
                    orders touch 0 at 0 with done+5 -> 1
                    touch(0, 0, 0) -> 5
                    orders copy times 2; touch 0 at 1 with done -> 3
                    touch(0, 1, 0) -> 2
                    """);
            Edges.sentence(II, "tone: what is SEEN", """
                    painter(1, 0)
                    first(4, 7)
                    copy()
                    orders touch 0 at 0 with tone 4; paint by 0; touch 0 at 1 with tone 4 -> 3
                    touch(0, 0, 0) -> 7
                    touch(0, 1, 0) -> 6
                    orders scrape; touch 0 at 0 with tone 4 -> 2
                    touch(0, 0, 0) -> 7
                    """);
        }

        static void paints() {
            Edges.sentence(II, "To paint likest, cheapest: by the one of a ROW for one YEAR", """
                    painter(1, 5)
                    painter(2, 9)
                    painter(2, 9)
                    orders paint likest -> 1
                    layer(1, 1) -> 1
                    scrape()
                    orders paint cheapest -> 1
                    layer(1, 1) -> 0
                    scrape()
                    rules lets 0
                    orders paint cheapest -> 1
                    layer(1, 1) -> 1
                    terms(4, 1)
                    scrape()
                    orders paint likest times 2 -> 2
                    layer(1, 1) -> 1
                    layer(2, 1) -> 0
                    scrape()
                    scrape()
                    rules lets 0; looks 9
                    orders paint cheapest -> refused -3 by 0
                    orders paint likest -> 1
                    rules bars
                    orders paint likest -> refused -3 by 0
                    """);
            Edges.sentence(II, "paint .. by SUM: by that PAINTER", """
                    orders paint by 0 -> refused -3 by 0
                    orders paint likest -> refused -3 by 0
                    orders paint cheapest -> refused -3 by 0
                    painter(1, 5)
                    painter(2, 5)
                    orders paint by 1 -> 1
                    layer(1, 1) -> 1
                    orders paint by 2-2 -> 1
                    layer(2, 1) -> 0
                    orders paint by 2 -> refused -3 by 0
                    orders paint by 0-1 -> refused -3 by 0
                    orders paint by 1000*1000*1000 -> refused -3 by 0
                    """);
        }

        static void touches() {
            Edges.sentence(II, "To touch a COPY (first SUM) at a CELL (second) with a TONE (third)", """
                    orders touch 0 at 0 with 0 -> refused -3 by 0
                    copy()
                    copy()
                    orders touch 1 at 11 with 9 -> 1
                    touch(1, 11, 0) -> 9
                    orders touch 0 at 0 with 0 -> 1
                    orders touch 2 at 0 with 0 -> refused -3 by 0
                    orders touch 0-1 at 0 with 0 -> refused -3 by 0
                    orders touch 0 at 12 with 0 -> refused -3 by 0
                    orders touch 0 at 0-1 with 0 -> refused -3 by 0
                    orders touch 0 at 0 with 10 -> refused -3 by 0
                    orders touch 0 at 0 with 0-1 -> refused -3 by 0
                    orders touch 1 at 2 with 3 -> 1
                    touch(1, 2, 0) -> 3
                    """);
        }

        static void wholly() {
            Edges.sentence(II, "One that can't be (a BROKEN SUM, too) ends it: all is as it was ahead of it", """
                    painter(2, 30)
                    first(5, 8)
                    2 times paint(0)
                    copy()
                    touch(0, 3, 7)
                    image(0)
                    century(5, 3)
                    orders paint by 0; copy; touch 0 at 3 with 1; scrape times 3; scrape -> refused -3 by 4
                    orders copy; touch 0 at 0 with 1; paint by 5/0 -> refused -3 by 2
                    orders copy times 6 -> refused -5 by 0
                    orders scrape times 2; paint by 0 times 16; copy; paint by 0 -> refused -5 by 3
                    orders touch 0 at 3 with 9; scrape; copy times 5; paint by 0; copy -> refused -5 by 4
                    touch(0, 3, 7) -> 7
                    count(3) -> 2
                    count(4) -> 1
                    """);
            Edges.sentence(II, "ends it: those behind it are not run", """
                    orders copy; scrape; copy times 7 -> refused -3 by 1
                    orders copy times 7; scrape -> refused -5 by 0
                    orders copy; copy; copy; copy; copy; copy; copy; scrape -> refused -5 by 6
                    count(4) -> 0
                    """);
        }
    }
}
