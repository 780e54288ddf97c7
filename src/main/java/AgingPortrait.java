/**
 * A portrait that must age. What each call answers is told in the document (DOC.md) by promise;
 * the comments here say only why something is done as it is.
 */
public final class AgingPortrait {
    public static final int NONE = -1;
    public static final int NOTHING = -1000000;

    private static final int CELLS = 12;
    private static final int TONES = 10;
    private static final int KINDS = 3;
    private static final int MOST_YEARS = 16;
    private static final int MOST_PAINTERS = 5;
    private static final int MOST_SCARS = 6;
    private static final int MOST_LAWS = 6;
    private static final int MOST_COPIES = 6;
    private static final int MOST_CLAIMANTS = 8;
    private static final int MOST_BYTES = 400;
    private static final int MOST_CLAUSES = 12;
    private static final int MOST_PARTS = 50;
    private static final int MOST_BRACKETS = 8;
    private static final int MOST_PLANNED = 5;
    private static final int MOST_DRIFTED = 10;
    private static final int CALENDAR = 100;
    private static final int IMAGES = 2;
    private static final int OLDEST = 199;
    private static final int LATEST_DEATH = 150;
    private static final int BREAKING = 1000000000;
    private static final int ROOT_PARENT = 100;

    private static final int BAD_NUMBER = -1;
    private static final int NO_SUCH = -2;
    private static final int CAN_NOT_BE = -3;
    private static final int NO_ROOM = -5;
    private static final int BAD_TEXT = -6;

    private static final int AGE = 0;
    private static final int PACE = 1;
    private static final int MOOD = 2;
    private static final int INCOME = 3;
    private static final int REST = 4;
    private static final int TERMS = 5;

    // of a painter: reach, price, three errors (each and 3)
    private static final int FACTS = 5;
    // of a scar: cell, year, tone
    private static final int MARKS = 3;
    // of a claimant: parent, born, dead, copy
    private static final int TRAITS = 4;

    private static final String LAW_KINDS = "looks lets asks ranks bars";
    private static final int LOOKS = 0;
    private static final int LETS = 1;
    private static final int ASKS = 2;
    private static final int RANKS = 3;
    private static final int BARS = 4;

    private static final String LAW_WORDS =
            "cell age year painter price mood claimant born near children";
    private static final int CELL_WORD = 0;
    private static final int AGE_WORD = 1;
    private static final int YEAR_WORD = 2;
    private static final int PAINTER_WORD = 3;
    private static final int PRICE_WORD = 4;
    private static final int MOOD_WORD = 5;
    private static final int CLAIMANT_WORD = 6;
    private static final int BORN_WORD = 7;
    private static final int NEAR_WORD = 8;
    private static final int CHILDREN_WORD = 9;
    private static final int LAW_WORD_COUNT = 10;

    private static final String ORDER_KINDS = "paint scrape copy touch";
    private static final String PAINT_KINDS = "likest cheapest by";
    // the first two ways to paint are the first two ways to plan: LIKEST, CHEAPEST
    private static final int PAINT_BY = 2;
    private static final int SCRAPE = 3;
    private static final int COPY = 4;
    private static final int TOUCH = 5;

    private static final String ORDER_WORDS = "years unlike money copies age done tone";
    private static final int YEARS_WORD = 0;
    private static final int UNLIKE_WORD = 1;
    private static final int MONEY_WORD = 2;
    private static final int COPIES_WORD = 3;
    private static final int SITTER_WORD = 4;
    private static final int DONE_WORD = 5;
    private static final int TONE_WORD = 6;
    private static final int ORDER_WORD_COUNT = TONE_WORD + CELLS;

    // a clause's (an order's) numbers in its TEXT's rows; places of steps, NONE: there is none
    private static final int KIND = 0;
    private static final int TIMES = 1;
    private static final int TEST = 2;
    private static final int SUMS = 3;
    private static final int CLAUSE_SIZE = 6;

    // a step is its deed and 16 times its number
    private static final int DO_NUMBER = 0;
    private static final int DO_WORD = 1;
    private static final int DO_ADD = 2;
    private static final int DO_LESS = 3;
    private static final int DO_TIMES = 4;
    private static final int DO_DIVIDE = 5;
    private static final int DO_BELOW = 6;
    private static final int DO_ABOVE = 7;
    private static final int DO_EQUAL = 8;
    private static final int DO_NOT = 9;
    private static final int DO_OR = 10;
    private static final int DO_AND = 11;
    private static final int DO_STOP = 12;
    // each token of a tape makes a step at most, but for the stop behind each SUM and TEST
    private static final int MOST_STEPS = MOST_BYTES + 4 * MOST_CLAUSES + 2;

    private static final int LIKEST = 0;
    private static final int CHEAPEST = 1;
    private static final int SOLVENT = 2;

    private final State now;
    private final State[] images;
    private int imagesKept;
    private final int[] tape;
    private int tapeLength;
    private final Reader reader;
    private final Text read;
    private final Judge judge;
    private final Studio studio;
    private final Planner planner;
    private final Stemma stemma;
    private final Court court;
    private final Clerk clerk;
    private final Century latest;
    private int faultPlace;
    private int flakesFallen;
    private int stoppedAt;
    private int lastStatus;
    private final int[] refused;

    public AgingPortrait() {
        State state = new State();
        int[] bytes = new int[MOST_BYTES];
        Text text = new Text(MOST_CLAUSES, MOST_STEPS);
        Judge itsJudge = new Judge(state);
        Studio itsStudio = new Studio(state, itsJudge);
        Planner itsPlanner = new Planner(state, itsJudge);
        now = state;
        images = new State[IMAGES];
        images[0] = new State();
        images[1] = new State();
        tape = bytes;
        read = text;
        reader = new Reader(bytes, text);
        judge = itsJudge;
        studio = itsStudio;
        planner = itsPlanner;
        stemma = new Stemma(state);
        court = new Court(state, itsJudge);
        clerk = new Clerk(state, itsJudge, itsStudio, itsPlanner);
        latest = new Century(state, itsJudge);
        refused = new int[5];
        faultPlace = NONE;
        stoppedAt = NONE;
    }

    public int first(int cell, int tone) {
        if (!isCell(cell) || !isTone(tone)) {
            return refuse(BAD_NUMBER);
        }
        int had = now.tones[cell];
        now.tones[cell] = tone;
        now.years = 0;
        return answer(had);
    }

    public int painter(int reach, int price) {
        if (reach < 1 || reach > 9 || !inside(price, 100)) {
            return refuse(BAD_NUMBER);
        }
        if (now.painters >= MOST_PAINTERS) {
            return refuse(NO_ROOM);
        }
        int at = now.painters * FACTS;
        now.facts[at] = reach;
        now.facts[at + 1] = price;
        for (int kind = 0; kind < KINDS; kind++) {
            now.facts[at + 2 + kind] = 3;
        }
        now.painters++;
        return answer(now.painters - 1);
    }

    public int err(int painter, int kind, int error) {
        if (!inside(kind, KINDS) || !inside(error, 7)) {
            return refuse(BAD_NUMBER);
        }
        if (!now.hasPainter(painter)) {
            return refuse(NO_SUCH);
        }
        int at = painter * FACTS + 2 + kind;
        int had = now.facts[at];
        now.facts[at] = error;
        return answer(had);
    }

    public int of(int painter, int what) {
        if (!now.hasPainter(painter) || !inside(what, FACTS)) {
            return NONE;
        }
        return now.facts[painter * FACTS + what];
    }

    public int terms(int what, int value) {
        if (!inside(what, TERMS) || value < 0 || value > highestTerm(what)) {
            return refuse(BAD_NUMBER);
        }
        int had = now.terms[what];
        now.terms[what] = value;
        return answer(had);
    }

    public int scar(int cell, int year, int tone) {
        if (!isCell(cell) || !inside(year, CALENDAR) || !isTone(tone)) {
            return refuse(BAD_NUMBER);
        }
        if (now.scars >= MOST_SCARS) {
            return refuse(NO_ROOM);
        }
        int at = now.scars * MARKS;
        now.marks[at] = cell;
        now.marks[at + 1] = year;
        now.marks[at + 2] = tone;
        now.scars++;
        return answer(now.scars - 1);
    }

    public int heal(int scar) {
        if (!inside(scar, now.scars)) {
            return refuse(NO_SUCH);
        }
        for (int i = (scar + 1) * MARKS; i < now.scars * MARKS; i++) {
            now.marks[i - MARKS] = now.marks[i];
        }
        now.scars--;
        return answer(now.scars);
    }

    public int feed(int a, int b, int c, int d, int e) {
        if (tapeLength + 20 > MOST_BYTES) {
            return NONE;
        }
        putBytes(a);
        putBytes(b);
        putBytes(c);
        putBytes(d);
        putBytes(e);
        return tapeLength;
    }

    public int end(int n) {
        if (n < 0 || n > tapeLength) {
            return NONE;
        }
        tapeLength = n;
        return n;
    }

    public int row() {
        if (tapeLength == 0) {
            return refuse(BAD_TEXT);
        }
        int told = 0;
        for (int i = 0; i < tapeLength && i < CELLS; i++) {
            if (tape[i] < TONES) {
                now.tones[i] = tape[i];
                told++;
            }
        }
        flakesFallen = tapeLength - told;
        now.years = 0;
        tapeLength = 0;
        return answer(told);
    }

    public int flakes() {
        return flakesFallen;
    }

    public int law() {
        int length = tapeLength;
        tapeLength = 0;
        if (now.laws >= MOST_LAWS) {
            return refuse(NO_ROOM);
        }
        faultPlace = reader.faultIn(length, false);
        if (faultPlace != NONE) {
            return refuse(BAD_TEXT);
        }
        now.texts[now.laws] = read.trimmed();
        now.laws++;
        return answer(now.laws - 1);
    }

    public int orders() {
        int length = tapeLength;
        tapeLength = 0;
        stoppedAt = NONE;
        faultPlace = reader.faultIn(length, true);
        if (faultPlace != NONE) {
            return refuse(BAD_TEXT);
        }
        int code = clerk.runAll(read);
        if (code != 0) {
            stoppedAt = clerk.order;
            return refuse(code);
        }
        return answer(clerk.done);
    }

    public int fault() {
        return faultPlace;
    }

    public int stopped() {
        return stoppedAt;
    }

    public int force(int law) {
        if (law != NONE && !inside(law, now.laws)) {
            return refuse(NO_SUCH);
        }
        int had = now.inForce;
        now.inForce = law;
        return answer(had);
    }

    public int looks(int cell, int year, int what) {
        if (!inside(year, CALENDAR)) {
            return NONE;
        }
        if (cell == NONE) {
            return now.ageIn(year);
        }
        if (!isCell(cell) || !inside(what, 2)) {
            return NONE;
        }
        return what == 0 ? judge.looksOf(cell, year) : judge.letsOf(cell, year);
    }

    public int asks(int painter, int year, int what) {
        if (!now.hasPainter(painter) || !inside(year, CALENDAR) || !inside(what, 2)) {
            return NONE;
        }
        return what == 0 ? judge.asksOf(painter, year) : bit(judge.barsPainter(painter, year));
    }

    public int paint(int painter) {
        if (!now.hasPainter(painter)) {
            return refuse(NO_SUCH);
        }
        int next = now.years + 1;
        if (judge.barsPainter(painter, next) || now.rests(painter, next)) {
            return refuse(CAN_NOT_BE);
        }
        if (now.years >= MOST_YEARS) {
            return refuse(NO_ROOM);
        }
        studio.paintNext(painter);
        return answer(studio.unlikeOf(now.years));
    }

    public int scrape() {
        if (now.years == 0) {
            return refuse(CAN_NOT_BE);
        }
        now.years--;
        return answer(now.by[now.years + 1]);
    }

    public int tone(int layer, int cell) {
        if (!now.hasLayer(layer) || !isCell(cell)) {
            return NONE;
        }
        return now.tones[layer * CELLS + cell];
    }

    public int layer(int layer, int what) {
        if (!now.hasLayer(layer)) {
            return NONE;
        }
        switch (what) {
            case 0:
                return studio.unlikeOf(layer);
            case 1:
                return layer == 0 ? NONE : now.by[layer];
            case 2:
                return layer == 0 ? 0 : judge.asksOf(now.by[layer], layer);
            case 3:
                return studio.farCell(layer);
            default:
                return NONE;
        }
    }

    public int unlawful() {
        for (int layer = 0; layer <= now.years; layer++) {
            if (studio.farCell(layer) != NONE) {
                return layer;
            }
        }
        return NONE;
    }

    public int money(int layer) {
        return now.hasLayer(layer) ? studio.moneyBehind(layer) : NOTHING;
    }

    public int broke() {
        for (int layer = 0; layer <= now.years; layer++) {
            if (studio.moneyBehind(layer) < 0) {
                return layer;
            }
        }
        return NONE;
    }

    public int plan(int by, int n, int what) {
        if (by < LIKEST || by > SOLVENT || !inside(n, MOST_PLANNED + 1)) {
            return NONE;
        }
        if (what < 0 || what >= 3 + n) {
            return NONE;
        }
        planner.seek(by, n);
        if (what == 2) {
            return planner.rows;
        }
        if (planner.rows == 0) {
            return NONE;
        }
        if (what == 0) {
            return planner.leastUnlike;
        }
        return what == 1 ? planner.leastAsked : planner.best[what - 3];
    }

    public int drift(int cell, int n, int what) {
        if (!isCell(cell) || !inside(n, MOST_DRIFTED + 1) || !inside(what, 3)) {
            return NONE;
        }
        int bits = studio.driftOf(cell, n);
        if (what == 2) {
            return bits;
        }
        if (bits == 0) {
            return NONE;
        }
        return what == 0 ? lowestIn(bits) : highestIn(bits);
    }

    public int undoing(int i) {
        if (i < NONE) {
            return NONE;
        }
        return studio.undoingPair(i);
    }

    public int copy() {
        if (now.copies >= MOST_COPIES) {
            return refuse(NO_ROOM);
        }
        now.addCopy();
        return answer(now.copies - 1);
    }

    public int touch(int copy, int cell, int tone) {
        if (!isCell(cell) || !isTone(tone)) {
            return refuse(BAD_NUMBER);
        }
        if (!inside(copy, now.copies)) {
            return refuse(NO_SUCH);
        }
        int had = now.pictures[copy * CELLS + cell];
        now.pictures[copy * CELLS + cell] = tone;
        return answer(had);
    }

    public int burn() {
        int had = now.copies;
        now.copies = 0;
        return had;
    }

    public int near(int copy) {
        if (copy == NONE) {
            return heirs();
        }
        return inside(copy, now.copies) ? now.nearOf(copy) : NONE;
    }

    public int like(int one, int other) {
        if (!isRootOrCopy(one) || !isRootOrCopy(other)) {
            return NONE;
        }
        return stemma.between(one + 1, other + 1);
    }

    public int tree(int what) {
        if (what < 0 || what > now.copies) {
            return NONE;
        }
        stemma.weigh();
        if (what == 0) {
            return stemma.changed();
        }
        int parent = stemma.parentOf(what);
        return parent == 0 ? ROOT_PARENT : parent - 1;
    }

    public int trees() {
        stemma.weigh();
        return stemma.waysInAll();
    }

    public int dated(int copy, int what) {
        if (!inside(copy, now.copies) || !inside(what, 4)) {
            return NONE;
        }
        return stemma.datedBy(copy, what);
    }

    public int know(int what) {
        if (!inside(what, 2) || now.copies == 0) {
            return NONE;
        }
        stemma.learn();
        return what == 0 ? stemma.cellsToKnow : stemma.cellToBegin;
    }

    public int who(int layer) {
        return layer > 0 && now.hasLayer(layer) ? studio.whoCan(layer) : NONE;
    }

    public int forge(int layer, int cell, int tone) {
        if (!isCell(cell) || !isTone(tone)) {
            return refuse(BAD_NUMBER);
        }
        if (layer < 1 || !now.hasLayer(layer)) {
            return refuse(NO_SUCH);
        }
        int had = now.tones[layer * CELLS + cell];
        now.tones[layer * CELLS + cell] = tone;
        return answer(had);
    }

    public int skipped() {
        for (int layer = 1; layer <= now.years; layer++) {
            if (studio.whoCan(layer) == 0) {
                return layer;
            }
        }
        return NONE;
    }

    public int missing(int layer, int years) {
        if (layer < 1 || !now.hasLayer(layer) || years < 1 || years > 2) {
            return NONE;
        }
        return studio.rowsInto(layer, years + 1);
    }

    public int was(int cell) {
        return isCell(cell) ? studio.firstTones(cell) : NONE;
    }

    public long ways() {
        long all = 1;
        for (int cell = 0; cell < CELLS; cell++) {
            all *= Integer.bitCount(studio.firstTones(cell));
        }
        return all;
    }

    public int claimant(int parent, int born, int dead, int copy) {
        if (parent < NONE || !inside(born, CALENDAR) || !canBeCopy(copy)) {
            return refuse(BAD_NUMBER);
        }
        if (dead <= born || dead > LATEST_DEATH) {
            return refuse(BAD_NUMBER);
        }
        if (parent >= now.claimants) {
            return refuse(NO_SUCH);
        }
        if (now.claimants >= MOST_CLAIMANTS) {
            return refuse(NO_ROOM);
        }
        int at = now.claimants * TRAITS;
        now.traits[at] = parent;
        now.traits[at + 1] = born;
        now.traits[at + 2] = dead;
        now.traits[at + 3] = copy;
        now.claimants++;
        return answer(now.claimants - 1);
    }

    public int claim(int claimant, int what, int value) {
        if (!inside(what, 2)) {
            return refuse(BAD_NUMBER);
        }
        if (what == 0 ? !inside(value, LATEST_DEATH + 1) : !canBeCopy(value)) {
            return refuse(BAD_NUMBER);
        }
        if (!now.hasClaimant(claimant)) {
            return refuse(NO_SUCH);
        }
        int at = claimant * TRAITS;
        // which YEAR is too early is known by BORN alone, so only once the CLAIMANT is known
        if (what == 0 && value <= now.traits[at + 1]) {
            return refuse(BAD_NUMBER);
        }
        int had = now.traits[at + 2 + what];
        now.traits[at + 2 + what] = value;
        return answer(had);
    }

    public int born(int claimant, int what) {
        if (!now.hasClaimant(claimant) || !inside(what, TRAITS)) {
            return NONE;
        }
        return now.traits[claimant * TRAITS + what];
    }

    public int stands(int claimant, int year, int what) {
        if (!now.hasClaimant(claimant) || !inside(year, CALENDAR)) {
            return NONE;
        }
        switch (what) {
            case 0:
                return bit(now.isAlive(claimant, year));
            case 1:
                return judge.ranksOf(claimant, year);
            case 2:
                return bit(judge.barsClaimant(claimant, year));
            case 3:
                return now.childrenOf(claimant, year);
            default:
                return NONE;
        }
    }

    public int ruler(int year) {
        if (!inside(year, CALENDAR)) {
            return NONE;
        }
        court.crownTill(year);
        return court.ruling[year];
    }

    public int reign(int i, int what) {
        if (i < NONE || i != NONE && !inside(what, 3)) {
            return NONE;
        }
        court.crownTill(CALENDAR - 1);
        return i == NONE ? court.reigns() : court.reignOf(i, what);
    }

    public int vacant() {
        court.crownTill(CALENDAR - 1);
        int empty = 0;
        for (int year = 0; year < CALENDAR; year++) {
            if (court.ruling[year] == NONE) {
                empty++;
            }
        }
        return empty;
    }

    public int line(int year, int i) {
        if (!inside(year, CALENDAR) || i < NONE) {
            return NONE;
        }
        court.standInLine(year);
        if (i == NONE) {
            return court.standing;
        }
        return i < court.standing ? court.queue[i] : NONE;
    }

    public int century(int seed, int n) {
        if (seed < 0 || seed > 1000000 || !inside(n, 41) || now.years + n >= CALENDAR) {
            return refuse(BAD_NUMBER);
        }
        latest.pass(seed, n);
        return answer(latest.unlikeInTheEnd);
    }

    public int drawn(int cell) {
        if (!latest.passed) {
            return NONE;
        }
        if (isCell(cell)) {
            return latest.picture[cell];
        }
        return cell >= 100 ? latest.yearsOf(cell - 100) : NONE;
    }

    public int image(int k) {
        if (!inside(k, IMAGES)) {
            return refuse(BAD_NUMBER);
        }
        images[k].takeFrom(now);
        imagesKept |= 1 << k;
        return answer(0);
    }

    public int back(int k) {
        if (!inside(k, IMAGES)) {
            return refuse(BAD_NUMBER);
        }
        if ((imagesKept >> k & 1) == 0) {
            return refuse(NO_SUCH);
        }
        now.takeFrom(images[k]);
        return answer(0);
    }

    public int count(int what) {
        if (what >= 7 && what <= 11) {
            return refused[what - 7];
        }
        if (what >= 13 && what <= 17) {
            return now.terms[what - 13];
        }
        switch (what) {
            case 0:
                return now.painters;
            case 1:
                return now.laws;
            case 2:
                return now.scars;
            case 3:
                return now.years;
            case 4:
                return now.copies;
            case 5:
                return now.claimants;
            case 6:
                return tapeLength;
            case 12:
                return now.inForce;
            default:
                return NONE;
        }
    }

    public int status() {
        return lastStatus;
    }

    private int answer(int value) {
        lastStatus = 0;
        return value;
    }

    private int refuse(int code) {
        lastStatus = code;
        // -4 is no code: so that -5 and -6 stand right behind -3
        int place = code >= CAN_NOT_BE ? -code - 1 : -code - 2;
        if (inside(place, refused.length)) {
            refused[place]++;
        }
        return code;
    }

    private void putBytes(int number) {
        for (int shift = 24; shift >= 0 && tapeLength < MOST_BYTES; shift -= 8) {
            tape[tapeLength] = number >> shift & 255;
            tapeLength++;
        }
    }

    private int heirs() {
        int fewest = CELLS + 1;
        int bits = 0;
        for (int copy = 0; copy < now.copies; copy++) {
            int near = now.nearOf(copy);
            if (near < fewest) {
                fewest = near;
                bits = 0;
            }
            if (near == fewest) {
                bits |= 1 << copy;
            }
        }
        return bits;
    }

    private boolean isRootOrCopy(int number) {
        return number == NONE || inside(number, now.copies);
    }

    private static int highestTerm(int what) {
        switch (what) {
            case AGE:
                return 99;
            case PACE:
                return 5;
            case MOOD:
                return 9;
            case INCOME:
                return 999;
            default:
                return 3;
        }
    }

    private static boolean inside(int number, int bound) {
        return number >= 0 && number < bound;
    }

    private static boolean isCell(int cell) {
        return cell >= 0 && cell < CELLS;
    }

    private static boolean isTone(int tone) {
        return tone >= 0 && tone < TONES;
    }

    private static boolean canBeCopy(int copy) {
        return copy >= NONE && copy < MOST_COPIES;
    }

    private static int bit(boolean so) {
        return so ? 1 : 0;
    }

    private static int lowestIn(int bits) {
        for (int place = 0; place < 31; place++) {
            if ((bits >> place & 1) == 1) {
                return place;
            }
        }
        return NONE;
    }

    private static int highestIn(int bits) {
        for (int place = 30; place >= 0; place--) {
            if ((bits >> place & 1) == 1) {
                return place;
            }
        }
        return NONE;
    }

    private static int nearest(int value, int lowest, int highest) {
        return value < lowest ? lowest : value > highest ? highest : value;
    }

    /** All that an IMAGE keeps. */
    private static final class State {
        int painters;
        final int[] facts = new int[MOST_PAINTERS * FACTS];
        int scars;
        final int[] marks = new int[MOST_SCARS * MARKS];
        final int[] terms = new int[TERMS];
        int laws;
        final Text[] texts = new Text[MOST_LAWS];
        int inForce = NONE;
        int years;
        final int[] by = new int[MOST_YEARS + 1];
        final int[] tones = new int[(MOST_YEARS + 1) * CELLS];
        int copies;
        final int[] pictures = new int[MOST_COPIES * CELLS];
        int claimants;
        final int[] traits = new int[MOST_CLAIMANTS * TRAITS];

        State() {
            terms[AGE] = 20;
            terms[PACE] = 3;
            terms[INCOME] = 100;
        }

        void takeFrom(State other) {
            painters = other.painters;
            System.arraycopy(other.facts, 0, facts, 0, facts.length);
            scars = other.scars;
            System.arraycopy(other.marks, 0, marks, 0, marks.length);
            System.arraycopy(other.terms, 0, terms, 0, terms.length);
            laws = other.laws;
            for (int i = 0; i < texts.length; i++) {
                texts[i] = other.texts[i];
            }
            inForce = other.inForce;
            years = other.years;
            System.arraycopy(other.by, 0, by, 0, by.length);
            System.arraycopy(other.tones, 0, tones, 0, tones.length);
            copies = other.copies;
            System.arraycopy(other.pictures, 0, pictures, 0, pictures.length);
            claimants = other.claimants;
            System.arraycopy(other.traits, 0, traits, 0, traits.length);
        }

        boolean hasPainter(int painter) {
            return inside(painter, painters);
        }

        boolean hasLayer(int layer) {
            return inside(layer, years + 1);
        }

        boolean hasClaimant(int claimant) {
            return inside(claimant, claimants);
        }

        int ageIn(int year) {
            int age = terms[AGE] + (terms[PACE] - 2) * year;
            return age < 0 ? 0 : age > OLDEST ? OLDEST : age;
        }

        boolean rests(int painter, int year) {
            for (int ahead = 1; ahead <= terms[REST]; ahead++) {
                int layer = year - ahead;
                if (layer >= 1 && layer <= years && by[layer] == painter) {
                    return true;
                }
            }
            return false;
        }

        int seenAt(int cell) {
            return tones[years * CELLS + cell];
        }

        void addCopy() {
            System.arraycopy(tones, years * CELLS, pictures, copies * CELLS, CELLS);
            copies++;
        }

        int nearOf(int copy) {
            int unlike = 0;
            for (int cell = 0; cell < CELLS; cell++) {
                if (pictures[copy * CELLS + cell] != tones[years * CELLS + cell]) {
                    unlike++;
                }
            }
            return unlike;
        }

        boolean isAlive(int claimant, int year) {
            int at = claimant * TRAITS;
            return traits[at + 1] <= year && year < traits[at + 2];
        }

        int childrenOf(int claimant, int year) {
            int alive = 0;
            for (int child = 0; child < claimants; child++) {
                if (traits[child * TRAITS] == claimant && isAlive(child, year)) {
                    alive++;
                }
            }
            return alive;
        }

        /** A painter's brush on one cell: towards its aim, then off by his error. */
        int brushed(int painter, int cell, int tone, int aim) {
            int at = painter * FACTS;
            int reach = facts[at];
            int moved = tone + nearest(aim - tone, -reach, reach);
            return nearest(moved + facts[at + 2 + cell % KINDS] - 3, 0, TONES - 1);
        }
    }

    /** A LAW or ORDERS, read: rows of clauses and the steps of their SUMS and TESTS. */
    private static final class Text {
        final int[] rows;
        final int[] steps;
        int clauses;
        int length;
        // which words are asked, as bits
        int words;

        Text(int mostClauses, int mostSteps) {
            rows = new int[mostClauses * CLAUSE_SIZE];
            steps = new int[mostSteps];
        }

        void clear() {
            clauses = 0;
            length = 0;
            words = 0;
        }

        void add(int deed, int number) {
            if (length < steps.length) {
                steps[length] = deed + 16 * number;
                length++;
            }
        }

        /** Makes the step at a place jump to where the next step comes. */
        void jumpHere(int place) {
            if (place >= 0 && place < length) {
                steps[place] = (steps[place] & 15) + 16 * length;
            }
        }

        Text trimmed() {
            Text small = new Text(clauses, length);
            System.arraycopy(rows, 0, small.rows, 0, clauses * CLAUSE_SIZE);
            System.arraycopy(steps, 0, small.steps, 0, length);
            small.clauses = clauses;
            small.length = length;
            small.words = words;
            return small;
        }
    }

    /** Reads a tape as a LAW or as ORDERS; each reading method answers whether the text went on. */
    private static final class Reader {
        private static final int LETTERS = 0;
        private static final int DIGITS = 1;
        private static final int SIGN = 2;
        private static final int THE_END = 3;

        private final int[] tape;
        private int length;
        private final Text into;
        private boolean isOrders;
        private int kind;
        private int start;
        private int stop;
        private int number;
        private int parts;

        Reader(int[] bytes, Text text) {
            tape = bytes;
            into = text;
        }

        /** NONE, if the first bytes of the tape are a text, else where it can't go on. */
        int faultIn(int bytes, boolean asOrders) {
            length = Math.min(bytes, tape.length);
            isOrders = asOrders;
            into.clear();
            stop = 0;
            parts = 0;
            next();
            for (int clause = 0; clause < MOST_CLAUSES; clause++) {
                int at = clause * CLAUSE_SIZE;
                clearRow(at);
                if (!(isOrders ? readOrder(at) : readClause(at)) || !readIf(at)) {
                    return start;
                }
                into.clauses = clause + 1;
                if (kind == THE_END) {
                    return NONE;
                }
                if (!takes(';')) {
                    return start;
                }
            }
            return start;
        }

        private void clearRow(int at) {
            for (int i = 0; i < CLAUSE_SIZE; i++) {
                into.rows[at + i] = NONE;
            }
            into.rows[at + TIMES] = 1;
        }

        private boolean readClause(int at) {
            int which = placeIn(LAW_KINDS);
            if (which == NONE) {
                return false;
            }
            into.rows[at + KIND] = which;
            next();
            return which == BARS || readSumOf(at, 0);
        }

        private boolean readOrder(int at) {
            int which = placeIn(ORDER_KINDS);
            if (which == NONE) {
                return false;
            }
            next();
            if (which == 0) {
                which = placeIn(PAINT_KINDS);
                if (which == NONE) {
                    return false;
                }
                next();
            } else {
                which += PAINT_BY;
            }
            into.rows[at + KIND] = which;
            if (which == PAINT_BY && !readSumOf(at, 0)) {
                return false;
            }
            if (which == TOUCH && !(readSumOf(at, 0) && takesWord("at") && readSumOf(at, 1)
                    && takesWord("with") && readSumOf(at, 2))) {
                return false;
            }
            return readTimes(at);
        }

        private boolean readTimes(int at) {
            if (!takesWord("times")) {
                return true;
            }
            if (kind != DIGITS || number < 1 || number > 20) {
                return false;
            }
            into.rows[at + TIMES] = number;
            next();
            return true;
        }

        private boolean readIf(int at) {
            if (!takesWord("if")) {
                return true;
            }
            into.rows[at + TEST] = into.length;
            boolean went = readTest(0);
            into.add(DO_STOP, 0);
            return went;
        }

        private boolean readSumOf(int at, int which) {
            into.rows[at + SUMS + which] = into.length;
            boolean went = readSum(0);
            into.add(DO_STOP, 0);
            return went;
        }

        private boolean readTest(int brackets) {
            boolean went = readBoth(brackets);
            for (int i = 0; went && i < MOST_BYTES && takesWord("or"); i++) {
                int jump = into.length;
                into.add(DO_OR, 0);
                went = readBoth(brackets);
                into.jumpHere(jump);
            }
            return went;
        }

        private boolean readBoth(int brackets) {
            boolean went = readPlain(brackets);
            for (int i = 0; went && i < MOST_BYTES && takesWord("and"); i++) {
                int jump = into.length;
                into.add(DO_AND, 0);
                went = readPlain(brackets);
                into.jumpHere(jump);
            }
            return went;
        }

        private boolean readPlain(int brackets) {
            boolean turned = false;
            for (int i = 0; i < MOST_BYTES && takesWord("not"); i++) {
                turned = !turned;
            }
            boolean went;
            if (isSign('(')) {
                went = opens(brackets) && readTest(brackets + 1) && takes(')');
            } else {
                went = readSum(brackets);
                int deed = isSign('<') ? DO_BELOW : isSign('>') ? DO_ABOVE : DO_EQUAL;
                went = went && (takes('<') || takes('>') || takes('=')) && readSum(brackets);
                into.add(deed, 0);
            }
            if (turned) {
                into.add(DO_NOT, 0);
            }
            return went;
        }

        private boolean readSum(int brackets) {
            boolean went = readTerm(brackets);
            for (int i = 0; went && i < MOST_BYTES && (isSign('+') || isSign('-')); i++) {
                int deed = isSign('+') ? DO_ADD : DO_LESS;
                next();
                went = readTerm(brackets);
                into.add(deed, 0);
            }
            return went;
        }

        private boolean readTerm(int brackets) {
            boolean went = readPart(brackets);
            for (int i = 0; went && i < MOST_BYTES && (isSign('*') || isSign('/')); i++) {
                int deed = isSign('*') ? DO_TIMES : DO_DIVIDE;
                next();
                went = readPart(brackets);
                into.add(deed, 0);
            }
            return went;
        }

        private boolean readPart(int brackets) {
            if (isSign('[')) {
                return opens(brackets) && readSum(brackets + 1) && takes(']');
            }
            if (kind == DIGITS) {
                if (number > 1000 || parts >= MOST_PARTS) {
                    return false;
                }
                into.add(DO_NUMBER, number);
                parts++;
                next();
                return true;
            }
            int word = placeIn(isOrders ? ORDER_WORDS : LAW_WORDS);
            if (word == NONE || parts >= MOST_PARTS) {
                return false;
            }
            parts++;
            next();
            if (isOrders && word == TONE_WORD) {
                if (kind != DIGITS || number >= CELLS) {
                    return false;
                }
                word += number;
                next();
            }
            into.add(DO_WORD, word);
            into.words |= 1 << word;
            return true;
        }

        private boolean opens(int brackets) {
            if (brackets >= MOST_BRACKETS) {
                return false;
            }
            next();
            return true;
        }

        private boolean isSign(char sign) {
            return kind == SIGN && start < length && tape[start] == sign;
        }

        private boolean takes(char sign) {
            boolean here = isSign(sign);
            if (here) {
                next();
            }
            return here;
        }

        private boolean takesWord(String word) {
            boolean here = isSame(word, 0, word.length());
            if (here) {
                next();
            }
            return here;
        }

        /** The place of the token among the words of a list, which stand one blank apart. */
        private int placeIn(String list) {
            int place = 0;
            int from = 0;
            for (int i = 0; i <= list.length(); i++) {
                if (i == list.length() || list.charAt(i) == ' ') {
                    if (isSame(list, from, i)) {
                        return place;
                    }
                    place++;
                    from = i + 1;
                }
            }
            return NONE;
        }

        private boolean isSame(String list, int from, int to) {
            if (kind != LETTERS || to - from != stop - start) {
                return false;
            }
            for (int i = 0; i < to - from; i++) {
                if (list.charAt(from + i) != tape[start + i]) {
                    return false;
                }
            }
            return true;
        }

        private void next() {
            start = stop;
            while (start < length && tape[start] == ' ') {
                start++;
            }
            stop = start;
            number = 0;
            if (start >= length) {
                kind = THE_END;
                return;
            }
            kind = kindOf(tape[start]);
            if (kind == SIGN) {
                stop++;
                return;
            }
            while (stop < length && kindOf(tape[stop]) == kind) {
                if (kind == DIGITS) {
                    // too great is as bad as greater: it need not grow on
                    number = Math.min(10000, number * 10 + tape[stop] - '0');
                }
                stop++;
            }
        }

        private static int kindOf(int sign) {
            if (sign >= 'a' && sign <= 'z') {
                return LETTERS;
            }
            return sign >= '0' && sign <= '9' ? DIGITS : SIGN;
        }
    }

    /** Works out one SUM or TEST of a text by its steps. */
    private static final class Engine {
        private final int[] stack = new int[2 * MOST_PARTS];
        private int height;
        // what was worked out; 1 and 0 of a TEST
        int result;

        /** Whether it was not BROKEN. All is worked out in here, to keep calls flat. */
        boolean works(Text text, int from, int[] words) {
            height = 0;
            int at = from;
            for (int turn = 0; turn < MOST_STEPS && inside(at, text.length); turn++) {
                int deed = text.steps[at] & 15;
                int number = text.steps[at] >> 4;
                at++;
                if (deed == DO_NUMBER || deed == DO_WORD) {
                    if (height >= stack.length || deed == DO_WORD && number >= words.length) {
                        return false;
                    }
                    stack[height] = deed == DO_NUMBER ? number : words[number];
                    height++;
                } else if (height < 1) {
                    return false;
                } else if (deed == DO_STOP) {
                    result = stack[0];
                    return true;
                } else if (deed == DO_NOT) {
                    stack[height - 1] = 1 - stack[height - 1];
                } else if (deed == DO_OR || deed == DO_AND) {
                    // what stands behind is asked only if it can still matter
                    if (stack[height - 1] == (deed == DO_OR ? 1 : 0)) {
                        at = number;
                    } else {
                        height--;
                    }
                } else if (!joins(deed)) {
                    return false;
                }
            }
            return false;
        }

        private boolean joins(int deed) {
            if (height < 2) {
                return false;
            }
            long left = stack[height - 2];
            long right = stack[height - 1];
            if (deed == DO_DIVIDE && right == 0) {
                return false;
            }
            long both;
            switch (deed) {
                case DO_ADD:
                    both = left + right;
                    break;
                case DO_LESS:
                    both = left - right;
                    break;
                case DO_TIMES:
                    both = left * right;
                    break;
                case DO_DIVIDE:
                    both = right == 0 ? 0 : left / right;
                    break;
                case DO_BELOW:
                    both = left < right ? 1 : 0;
                    break;
                case DO_ABOVE:
                    both = left > right ? 1 : 0;
                    break;
                default:
                    both = left == right ? 1 : 0;
                    break;
            }
            if (both > BREAKING || both < -BREAKING) {
                return false;
            }
            height--;
            stack[height - 1] = (int) both;
            return true;
        }
    }

    /** What scars, the LAW in FORCE, terms and prices tell of cells, painters and claimants. */
    private static final class Judge {
        private final State now;
        private final Engine engine = new Engine();
        private final int[] words = new int[LAW_WORD_COUNT];
        private int told;

        Judge(State state) {
            now = state;
        }

        int looksOf(int cell, int year) {
            int marked = scarOn(cell, year);
            if (marked != NONE) {
                return marked;
            }
            ask(year);
            words[CELL_WORD] = cell;
            if (tells(LOOKS)) {
                return nearest(told, 0, TONES - 1);
            }
            return Math.min(TONES - 1, now.ageIn(year) / 10);
        }

        int letsOf(int cell, int year) {
            ask(year);
            words[CELL_WORD] = cell;
            return tells(LETS) ? nearest(told, 0, TONES - 1) : TONES - 1;
        }

        int asksOf(int painter, int year) {
            askPainter(painter, year);
            return tells(ASKS) ? nearest(told, 0, 999) : now.facts[painter * FACTS + 1];
        }

        boolean barsPainter(int painter, int year) {
            askPainter(painter, year);
            return tells(BARS);
        }

        int ranksOf(int claimant, int year) {
            askClaimant(claimant, year);
            return tells(RANKS) ? nearest(told, 0, 999) : claimant;
        }

        boolean barsClaimant(int claimant, int year) {
            askClaimant(claimant, year);
            return tells(BARS);
        }

        private int scarOn(int cell, int year) {
            int latest = NONE;
            int tone = NONE;
            for (int at = 0; at < now.scars * MARKS; at += MARKS) {
                int from = now.marks[at + 1];
                if (now.marks[at] == cell && from <= year && from >= latest) {
                    latest = from;
                    tone = now.marks[at + 2];
                }
            }
            return tone;
        }

        /** What every question knows; the sitter's age gives way to a claimant's. */
        private void ask(int year) {
            for (int word = 0; word < words.length; word++) {
                words[word] = NONE;
            }
            words[AGE_WORD] = now.ageIn(year);
            words[YEAR_WORD] = year;
            words[MOOD_WORD] = now.terms[MOOD];
        }

        private void askPainter(int painter, int year) {
            ask(year);
            words[PAINTER_WORD] = painter;
            words[PRICE_WORD] = now.facts[painter * FACTS + 1];
        }

        private void askClaimant(int claimant, int year) {
            ask(year);
            int at = claimant * TRAITS;
            int copy = now.traits[at + 3];
            words[CLAIMANT_WORD] = claimant;
            words[BORN_WORD] = now.traits[at + 1];
            words[AGE_WORD] = year - now.traits[at + 1];
            words[NEAR_WORD] = inside(copy, now.copies) ? now.nearOf(copy) : NONE;
            words[CHILDREN_WORD] = now.childrenOf(claimant, year);
        }

        /** Whether a clause of the kind HOLDS; what the last one tells is kept. */
        private boolean tells(int kind) {
            Text law = inside(now.inForce, now.laws) ? now.texts[now.inForce] : null;
            if (law == null) {
                return false;
            }
            for (int at = (law.clauses - 1) * CLAUSE_SIZE; at >= 0; at -= CLAUSE_SIZE) {
                if (law.rows[at + KIND] == kind) {
                    int test = law.rows[at + TEST];
                    int sum = law.rows[at + SUMS];
                    boolean so = test == NONE
                            || engine.works(law, test, words) && engine.result == 1;
                    if (so && (sum == NONE || engine.works(law, sum, words))) {
                        told = engine.result;
                        return true;
                    }
                }
            }
            return false;
        }
    }

    /** Paints layers and looks through them. */
    private static final class Studio {
        private final State now;
        private final Judge judge;
        private final int[] aims = new int[CELLS];
        private final int[] laterAims = new int[CELLS];

        Studio(State state, Judge itsJudge) {
            now = state;
            judge = itsJudge;
        }

        /** Paints one year more; there must be room for it. */
        void paintNext(int painter) {
            int year = now.years + 1;
            if (year > MOST_YEARS) {
                return;
            }
            for (int cell = 0; cell < CELLS; cell++) {
                int aim = judge.looksOf(cell, year);
                now.tones[year * CELLS + cell] =
                        now.brushed(painter, cell, now.seenAt(cell), aim);
            }
            now.by[year] = painter;
            now.years = year;
        }

        int unlikeOf(int layer) {
            int unlike = 0;
            for (int cell = 0; cell < CELLS; cell++) {
                unlike += Math.abs(now.tones[layer * CELLS + cell] - judge.looksOf(cell, layer));
            }
            return unlike;
        }

        /** The first cell of a layer that is farther than it LETS. */
        int farCell(int layer) {
            for (int cell = 0; cell < CELLS; cell++) {
                int far = Math.abs(now.tones[layer * CELLS + cell] - judge.looksOf(cell, layer));
                if (far > judge.letsOf(cell, layer)) {
                    return cell;
                }
            }
            return NONE;
        }

        int moneyBehind(int layer) {
            int money = now.terms[INCOME] * layer;
            for (int year = 1; year <= layer; year++) {
                money -= judge.asksOf(now.by[year], year);
            }
            return money;
        }

        int whoCan(int layer) {
            aimAt(layer, aims);
            int bits = 0;
            for (int painter = 0; painter < now.painters; painter++) {
                if (comesOut(layer, painter, 1)) {
                    bits |= 1 << painter;
                }
            }
            return bits;
        }

        /** How many rows of so many painters, all in its year, lead into a layer. */
        int rowsInto(int layer, int length) {
            aimAt(layer, aims);
            int all = 1;
            for (int i = 0; i < length; i++) {
                all *= now.painters;
            }
            int rows = 0;
            for (int row = 0; row < all; row++) {
                if (comesOut(layer, row, length)) {
                    rows++;
                }
            }
            return rows;
        }

        int driftOf(int cell, int n) {
            int bits = 1 << now.seenAt(cell);
            for (int year = now.years + 1; year <= now.years + n; year++) {
                int aim = judge.looksOf(cell, year);
                int next = 0;
                for (int painter = 0; painter < now.painters; painter++) {
                    if (!judge.barsPainter(painter, year)) {
                        next |= carried(bits, painter, cell, aim);
                    }
                }
                bits = next;
            }
            return bits;
        }

        /** The i-th pair that undoes itself (five times the first and the other); NONE: how many. */
        int undoingPair(int i) {
            aimAt(now.years + 1, aims);
            aimAt(now.years + 2, laterAims);
            int found = 0;
            for (int one = 0; one < now.painters; one++) {
                for (int other = 0; other < now.painters; other++) {
                    if (undo(one, other)) {
                        if (found == i) {
                            return MOST_PAINTERS * one + other;
                        }
                        found++;
                    }
                }
            }
            return i == NONE ? found : NONE;
        }

        /** The tones that a cell can have had in layer 0, by what is seen and who painted. */
        int firstTones(int cell) {
            int bits = 1 << now.seenAt(cell);
            for (int layer = now.years; layer >= 1; layer--) {
                int aim = judge.looksOf(cell, layer);
                int ahead = 0;
                for (int tone = 0; tone < TONES; tone++) {
                    int painted = now.brushed(now.by[layer], cell, tone, aim);
                    ahead |= (bits >> painted & 1) << tone;
                }
                bits = ahead;
            }
            return bits;
        }

        private void aimAt(int year, int[] into) {
            for (int cell = 0; cell < CELLS; cell++) {
                into[cell] = judge.looksOf(cell, year);
            }
        }

        /** A row is a number to the base of how many painters there are, the first one lowest. */
        private boolean comesOut(int layer, int row, int length) {
            if (now.painters == 0) {
                return false;
            }
            for (int cell = 0; cell < CELLS; cell++) {
                int tone = now.tones[(layer - 1) * CELLS + cell];
                int left = row;
                for (int i = 0; i < length; i++) {
                    tone = now.brushed(left % now.painters, cell, tone, aims[cell]);
                    left /= now.painters;
                }
                if (tone != now.tones[layer * CELLS + cell]) {
                    return false;
                }
            }
            return true;
        }

        private int carried(int bits, int painter, int cell, int aim) {
            int out = 0;
            for (int tone = 0; tone < TONES; tone++) {
                if ((bits >> tone & 1) == 1) {
                    out |= 1 << now.brushed(painter, cell, tone, aim);
                }
            }
            return out;
        }

        private boolean undo(int one, int other) {
            for (int cell = 0; cell < CELLS; cell++) {
                int seen = now.seenAt(cell);
                int tone = now.brushed(one, cell, seen, aims[cell]);
                if (now.brushed(other, cell, tone, laterAims[cell]) != seen) {
                    return false;
                }
            }
            return true;
        }
    }

    /** Seeks the best ROW of painters for the next years. */
    private static final class Planner {
        private final State now;
        private final Judge judge;
        private final int[] aims = new int[(MOST_PLANNED + 1) * CELLS];
        private final int[] lets = new int[(MOST_PLANNED + 1) * CELLS];
        private final int[] asked = new int[(MOST_PLANNED + 1) * MOST_PAINTERS];
        private final boolean[] barred = new boolean[(MOST_PLANNED + 1) * MOST_PAINTERS];
        private final int[] pictures = new int[(MOST_PLANNED + 1) * CELLS];
        private final int[] row = new int[MOST_PLANNED];
        private int by;
        private int length;
        private int money;
        final int[] best = new int[MOST_PLANNED];
        int leastUnlike;
        int leastAsked;
        // how many are as good as the best; 0: there is no row
        int rows;

        Planner(State state, Judge itsJudge) {
            now = state;
            judge = itsJudge;
        }

        void seek(int which, int n) {
            by = which;
            length = Math.min(n, MOST_PLANNED);
            rows = 0;
            money = now.terms[INCOME] * now.years;
            for (int year = 1; year <= now.years; year++) {
                money -= judge.asksOf(now.by[year], year);
            }
            for (int ahead = 0; ahead <= length; ahead++) {
                int year = now.years + ahead;
                for (int cell = 0; cell < CELLS; cell++) {
                    aims[ahead * CELLS + cell] = judge.looksOf(cell, year);
                    lets[ahead * CELLS + cell] = judge.letsOf(cell, year);
                }
                for (int painter = 0; painter < now.painters; painter++) {
                    asked[ahead * MOST_PAINTERS + painter] = judge.asksOf(painter, year);
                    barred[ahead * MOST_PAINTERS + painter] = judge.barsPainter(painter, year);
                }
            }
            System.arraycopy(now.tones, now.years * CELLS, pictures, 0, CELLS);
            walk(this, 0, 0);
        }

        /** Goes through all rows, the first ones first; depth: how many years are planned. */
        private static void walk(Planner plan, int depth, int spent) {
            if (depth >= plan.length) {
                plan.weigh(spent);
                return;
            }
            int ahead = depth + 1;
            for (int painter = 0; painter < plan.now.painters; painter++) {
                if (plan.mayPaint(painter, depth)) {
                    int together = spent + plan.asked[ahead * MOST_PAINTERS + painter];
                    plan.row[depth] = painter;
                    plan.paintOver(painter, ahead);
                    if (plan.isGood(ahead, together)) {
                        walk(plan, ahead, together);
                    }
                }
            }
        }

        private boolean mayPaint(int painter, int depth) {
            int ahead = depth + 1;
            if (barred[ahead * MOST_PAINTERS + painter] || now.rests(painter, now.years + ahead)) {
                return false;
            }
            for (int i = Math.max(0, depth - now.terms[REST]); i < depth; i++) {
                if (row[i] == painter) {
                    return false;
                }
            }
            return true;
        }

        private void paintOver(int painter, int ahead) {
            int at = ahead * CELLS;
            for (int cell = 0; cell < CELLS; cell++) {
                pictures[at + cell] =
                        now.brushed(painter, cell, pictures[at - CELLS + cell], aims[at + cell]);
            }
        }

        private boolean isGood(int ahead, int together) {
            if (by == SOLVENT) {
                return money + now.terms[INCOME] * ahead - together >= 0;
            }
            if (by == CHEAPEST) {
                int at = ahead * CELLS;
                for (int cell = 0; cell < CELLS; cell++) {
                    if (Math.abs(pictures[at + cell] - aims[at + cell]) > lets[at + cell]) {
                        return false;
                    }
                }
            }
            return true;
        }

        private void weigh(int spent) {
            int at = length * CELLS;
            int unlike = 0;
            for (int cell = 0; cell < CELLS; cell++) {
                unlike += Math.abs(pictures[at + cell] - aims[at + cell]);
            }
            if (rows > 0 && unlike == leastUnlike && spent == leastAsked) {
                rows++;
            } else if (rows == 0 || isBetter(unlike, spent)) {
                rows = 1;
                leastUnlike = unlike;
                leastAsked = spent;
                System.arraycopy(row, 0, best, 0, length);
            }
        }

        private boolean isBetter(int unlike, int spent) {
            if (by == CHEAPEST) {
                return spent < leastAsked || spent == leastAsked && unlike < leastUnlike;
            }
            return unlike < leastUnlike || unlike == leastUnlike && spent < leastAsked;
        }
    }

    /** Copies and whence they come. Node 0 is LAYER 0, node 1 + i is COPY i. */
    private static final class Stemma {
        private static final int MOST_NODES = MOST_COPIES + 1;

        private final State now;
        private int nodes;
        private final int[] apart = new int[MOST_NODES * MOST_NODES];
        // of each set of nodes: the fewest cells changed in a tree of it, how many such trees
        private final int[] least = new int[1 << MOST_NODES];
        private final int[] ways = new int[1 << MOST_NODES];
        private final int[] parents = new int[MOST_NODES];
        private final int[] worst = new int[1 << MOST_COPIES];
        int cellsToKnow;
        int cellToBegin;

        Stemma(State state) {
            now = state;
        }

        int between(int one, int other) {
            int unlike = 0;
            for (int cell = 0; cell < CELLS; cell++) {
                if (toneIn(one, cell) != toneIn(other, cell)) {
                    unlike++;
                }
            }
            return unlike;
        }

        /** Weighs the trees of all sets of nodes, smaller ones first. */
        void weigh() {
            nodes = now.copies + 1;
            for (int one = 0; one < nodes; one++) {
                for (int other = 0; other < nodes; other++) {
                    apart[one * MOST_NODES + other] = between(one, other);
                }
            }
            for (int set = 1; set < 1 << nodes; set++) {
                weighSet(set);
            }
        }

        int changed() {
            return least[(1 << nodes) - 1];
        }

        int waysInAll() {
            return ways[(1 << nodes) - 1];
        }

        int parentOf(int node) {
            for (int i = 0; i < MOST_NODES; i++) {
                parents[i] = NONE;
            }
            return fits(this, 1, 0) ? parents[node] : 0;
        }

        int datedBy(int copy, int what) {
            int fewest = CELLS + 1;
            int firstOne = 0;
            int lastOne = 0;
            int alike = 0;
            for (int layer = 0; layer <= now.years; layer++) {
                int unlike = fromLayer(copy, layer);
                if (unlike < fewest) {
                    fewest = unlike;
                    firstOne = layer;
                    alike = 0;
                }
                if (unlike == fewest) {
                    lastOne = layer;
                    alike++;
                }
            }
            switch (what) {
                case 0:
                    return fewest;
                case 1:
                    return firstOne;
                case 2:
                    return lastOne;
                default:
                    return alike;
            }
        }

        /** How many cells tell the copies apart at worst, by all sets of copies still possible. */
        void learn() {
            int all = (1 << now.copies) - 1;
            cellsToKnow = 0;
            cellToBegin = NONE;
            for (int set = 1; set <= all; set++) {
                int fewest = 0;
                int begin = NONE;
                for (int cell = 0; cell < CELLS; cell++) {
                    int need = needBehind(set, cell);
                    if (need != NONE && (begin == NONE || need < fewest)) {
                        fewest = need;
                        begin = cell;
                    }
                }
                worst[set] = fewest;
                cellsToKnow = fewest;
                cellToBegin = begin;
            }
        }

        /** How many cells are laid bare at worst, this one first; NONE: it tells nothing. */
        private int needBehind(int set, int cell) {
            int most = 0;
            int left = set;
            for (int copy = 0; copy < now.copies && left != 0; copy++) {
                if ((left >> copy & 1) == 1) {
                    int alike = sameIn(left, copy, cell);
                    if (alike == set) {
                        return NONE;
                    }
                    most = Math.max(most, worst[alike]);
                    left ^= alike;
                }
            }
            return most + 1;
        }

        private int sameIn(int set, int copy, int cell) {
            int bits = 0;
            for (int other = copy; other < now.copies; other++) {
                if ((set >> other & 1) == 1
                        && now.pictures[other * CELLS + cell] == now.pictures[copy * CELLS + cell]) {
                    bits |= 1 << other;
                }
            }
            return bits;
        }

        private int toneIn(int node, int cell) {
            return node == 0 ? now.tones[cell] : now.pictures[(node - 1) * CELLS + cell];
        }

        private int fromLayer(int copy, int layer) {
            int unlike = 0;
            for (int cell = 0; cell < CELLS; cell++) {
                if (now.pictures[copy * CELLS + cell] != now.tones[layer * CELLS + cell]) {
                    unlike++;
                }
            }
            return unlike;
        }

        /**
         * Each tree of a set comes once: by its branch at the lowest node that bears the second
         * lowest, and what is left without it.
         */
        private void weighSet(int set) {
            int rest = set & set - 1;
            if (rest == 0) {
                least[set] = 0;
                ways[set] = 1;
                return;
            }
            least[set] = CELLS * MOST_NODES;
            ways[set] = 0;
            int second = rest & -rest;
            int others = rest ^ second;
            for (int some = 0; some <= others; some++) {
                if ((some & others) == some) {
                    joinBranch(set, some | second);
                }
            }
        }

        private void joinBranch(int set, int branch) {
            int root = Math.max(0, lowestIn(set));
            int left = set ^ branch;
            int trees = ways[branch] * ways[left];
            for (int node = 0; node < nodes; node++) {
                if ((branch >> node & 1) == 1) {
                    int cells = least[branch] + least[left] + apart[root * MOST_NODES + node];
                    if (cells < least[set]) {
                        least[set] = cells;
                        ways[set] = 0;
                    }
                    if (cells == least[set]) {
                        ways[set] += trees;
                    }
                }
            }
        }

        /** Gives parents to this node and those behind it, the first row that changes least. */
        private static boolean fits(Stemma tree, int node, int spent) {
            if (node >= tree.nodes) {
                return spent == tree.changed();
            }
            if (spent + tree.leastFrom(node) > tree.changed()) {
                return false;
            }
            for (int parent = 0; parent < tree.nodes; parent++) {
                if (!tree.comesFrom(parent, node)) {
                    tree.parents[node] = parent;
                    if (fits(tree, node + 1, spent + tree.apart[node * MOST_NODES + parent])) {
                        return true;
                    }
                    tree.parents[node] = NONE;
                }
            }
            return false;
        }

        /** No fewer cells change in this node and those behind it. */
        private int leastFrom(int node) {
            int cells = 0;
            for (int one = node; one < nodes; one++) {
                int nearest = CELLS;
                for (int other = 0; other < nodes; other++) {
                    if (other != one) {
                        nearest = Math.min(nearest, apart[one * MOST_NODES + other]);
                    }
                }
                cells += nearest;
            }
            return cells;
        }

        /** Whether a node is that other one or was made from it, as far as parents are given. */
        private boolean comesFrom(int node, int other) {
            int at = node;
            for (int i = 0; i < MOST_NODES && at > 0 && at < MOST_NODES; i++) {
                if (at == other) {
                    return true;
                }
                at = parents[at];
            }
            return false;
        }
    }

    /** Who rules when, and who stands in line. */
    private static final class Court {
        private final State now;
        private final Judge judge;
        private final int[] ranks = new int[MOST_CLAIMANTS];
        final int[] ruling = new int[CALENDAR];
        final int[] queue = new int[MOST_CLAIMANTS];
        int standing;

        Court(State state, Judge itsJudge) {
            now = state;
            judge = itsJudge;
        }

        void crownTill(int last) {
            int reigning = NONE;
            for (int year = 0; year <= last && year < CALENDAR; year++) {
                if (reigning == NONE || !now.isAlive(reigning, year)) {
                    standInLine(year);
                    reigning = standing > 0 ? queue[0] : NONE;
                }
                ruling[year] = reigning;
            }
        }

        int reigns() {
            int all = 0;
            for (int year = 0; year < CALENDAR; year++) {
                if (begins(year)) {
                    all++;
                }
            }
            return all;
        }

        int reignOf(int i, int what) {
            int found = 0;
            for (int year = 0; year < CALENDAR; year++) {
                if (begins(year)) {
                    if (found == i) {
                        return what == 0 ? ruling[year] : what == 1 ? year : lasts(year);
                    }
                    found++;
                }
            }
            return NONE;
        }

        void standInLine(int year) {
            standing = 0;
            for (int claimant = 0; claimant < now.claimants; claimant++) {
                if (now.isAlive(claimant, year) && !judge.barsClaimant(claimant, year)) {
                    int rank = judge.ranksOf(claimant, year);
                    int at = standing;
                    while (at > 0 && ranks[at - 1] > rank) {
                        ranks[at] = ranks[at - 1];
                        queue[at] = queue[at - 1];
                        at--;
                    }
                    ranks[at] = rank;
                    queue[at] = claimant;
                    standing++;
                }
            }
        }

        private boolean begins(int year) {
            return ruling[year] != NONE && (year == 0 || ruling[year - 1] != ruling[year]);
        }

        private int lasts(int from) {
            int year = from;
            while (year < CALENDAR && ruling[year] == ruling[from]) {
                year++;
            }
            return year - from;
        }
    }

    /** Runs orders, wholly or not at all. */
    private static final class Clerk {
        private final State now;
        private final State before = new State();
        private final Judge judge;
        private final Studio studio;
        private final Planner planner;
        private final Engine engine = new Engine();
        private final int[] words = new int[ORDER_WORD_COUNT];
        private final int[] sums = new int[CLAUSE_SIZE - SUMS];
        int order;
        int done;

        Clerk(State state, Judge itsJudge, Studio itsStudio, Planner itsPlanner) {
            now = state;
            judge = itsJudge;
            studio = itsStudio;
            planner = itsPlanner;
        }

        /** 0, or why an order could not be; then all is as it was. */
        int runAll(Text text) {
            before.takeFrom(now);
            done = 0;
            for (order = 0; order < text.clauses; order++) {
                int at = order * CLAUSE_SIZE;
                for (int time = 0; time < text.rows[at + TIMES]; time++) {
                    learnWords(text.words);
                    if (isWanted(text, at)) {
                        int code = CAN_NOT_BE;
                        if (sumsWork(text, at)) {
                            int kind = text.rows[at + KIND];
                            code = kind <= PAINT_BY ? paints(kind) : changes(kind);
                        }
                        if (code != 0) {
                            now.takeFrom(before);
                            return code;
                        }
                        done++;
                    }
                }
            }
            return 0;
        }

        /** Unlike and money are dear to know: only if the text asks for them. */
        private void learnWords(int asked) {
            words[YEARS_WORD] = now.years;
            words[COPIES_WORD] = now.copies;
            words[SITTER_WORD] = now.ageIn(now.years);
            words[DONE_WORD] = done;
            for (int cell = 0; cell < CELLS; cell++) {
                words[TONE_WORD + cell] = now.seenAt(cell);
            }
            if ((asked >> UNLIKE_WORD & 1) == 1) {
                words[UNLIKE_WORD] = studio.unlikeOf(now.years);
            }
            if ((asked >> MONEY_WORD & 1) == 1) {
                words[MONEY_WORD] = studio.moneyBehind(now.years);
            }
        }

        private boolean isWanted(Text text, int at) {
            int test = text.rows[at + TEST];
            return test == NONE || engine.works(text, test, words) && engine.result == 1;
        }

        private boolean sumsWork(Text text, int at) {
            for (int i = 0; i < sums.length; i++) {
                int sum = text.rows[at + SUMS + i];
                if (sum != NONE) {
                    if (!engine.works(text, sum, words)) {
                        return false;
                    }
                    sums[i] = engine.result;
                }
            }
            return true;
        }

        private int paints(int kind) {
            int painter = sums[0];
            if (kind != PAINT_BY) {
                planner.seek(kind, 1);
                painter = planner.rows > 0 ? planner.best[0] : NONE;
            }
            int next = now.years + 1;
            if (!now.hasPainter(painter) || judge.barsPainter(painter, next)
                    || now.rests(painter, next)) {
                return CAN_NOT_BE;
            }
            if (now.years >= MOST_YEARS) {
                return NO_ROOM;
            }
            studio.paintNext(painter);
            return 0;
        }

        private int changes(int kind) {
            if (kind == COPY) {
                if (now.copies >= MOST_COPIES) {
                    return NO_ROOM;
                }
                now.addCopy();
                return 0;
            }
            if (kind == SCRAPE) {
                if (now.years == 0) {
                    return CAN_NOT_BE;
                }
                now.years--;
                return 0;
            }
            if (!inside(sums[0], now.copies) || !isCell(sums[1]) || !isTone(sums[2])) {
                return CAN_NOT_BE;
            }
            now.pictures[sums[0] * CELLS + sums[1]] = sums[2];
            return 0;
        }
    }

    /** Years by draws, on paper. */
    private static final class Century {
        private final State now;
        private final Judge judge;
        private int seed;
        // those there were when it was made: later ones are not in it
        private int painters;
        private final int[] painted = new int[MOST_PAINTERS];
        final int[] picture = new int[CELLS];
        int unlikeInTheEnd;
        boolean passed;

        Century(State state, Judge itsJudge) {
            now = state;
            judge = itsJudge;
        }

        void pass(int from, int n) {
            seed = from;
            painters = now.painters;
            passed = true;
            System.arraycopy(now.tones, now.years * CELLS, picture, 0, CELLS);
            for (int painter = 0; painter < MOST_PAINTERS; painter++) {
                painted[painter] = 0;
            }
            int last = now.years + n;
            for (int year = now.years + 1; year <= last && painters > 0; year++) {
                paintOne(year);
            }
            unlikeInTheEnd = 0;
            for (int cell = 0; cell < CELLS; cell++) {
                unlikeInTheEnd += Math.abs(picture[cell] - judge.looksOf(cell, last));
            }
        }

        int yearsOf(int painter) {
            return inside(painter, painters) ? painted[painter] : NONE;
        }

        private void paintOne(int year) {
            int painter = draw(painters);
            painted[painter]++;
            for (int cell = 0; cell < CELLS; cell++) {
                int aim = judge.looksOf(cell, year);
                int tone = now.brushed(painter, cell, picture[cell], aim);
                int drawn = draw(8);
                int shift = drawn == 0 ? -1 : drawn == 1 ? 1 : 0;
                picture[cell] = nearest(tone + shift, 0, TONES - 1);
            }
        }

        private int draw(int bound) {
            seed = (seed * 1103 + 12345) % 1000003;
            return bound > 0 ? seed % bound : 0;
        }
    }
}
