import java.util.Arrays;
import java.util.NoSuchElementException;

/** Islands drawn by dealings; ../shared/DOC.md says what every call answers. */
public final class DriftSea {
    public static final int NONE = -1;
    public static final int HIDDEN = -1000000;

    private static final int NO_SORT = -2;
    private static final int MOST_ISLES = 6;
    private static final int MOST_BRIDGES = 4;
    private static final int MOST_RULES = 4;
    private static final int MOST_SEASONS = 60;
    private static final int MOST_TREATY_SEASONS = 20;
    private static final int MOST_BICKER_SEASONS = 6;
    private static final int MOST_TREATIES = 3;
    private static final int MOST_SPEED = 99;
    private static final int MOST_STRENGTH = 9;
    private static final int MOST_PRICE = 99;
    private static final int MOST_CHANCE = 99;
    private static final int MOST_MASS = 99;
    private static final int MOST_PULL = 99;
    private static final int FARTHEST = 999;

    private final Tape tape = new Tape();
    private final Sea sea = new Sea();
    private final Sea draftSea = new Sea();
    private final Rule[] rules = new Rule[MOST_RULES];
    private final Rule draftRule = new Rule();
    private final State now = new State();
    private final State kept = new State();
    private final Past past = new Past();
    private final Weather weather = new Weather();
    private final Trade trade = new Trade();
    private final Course course = new Course(sea);
    private final Forecast forecast = new Forecast(sea, course, now);
    private final Deals deals = new Deals(sea, course, now);
    private final Charts charts = new Charts(sea, course, now);
    private int ruleCount;
    private int holding = NONE;
    private boolean hasKept;

    public DriftSea() {
        for (int i = 0; i < MOST_RULES; i++) {
            rules[i] = new Rule();
        }
    }

    // ---- the tape and the texts ----

    public int feed(int a, int b, int c, int d, int e) {
        int more = bytesIn(a) + bytesIn(b) + bytesIn(c) + bytesIn(d) + bytesIn(e);
        if (tape.length() + more > Tape.MOST) {
            return NONE;
        }
        tape.add(a);
        tape.add(b);
        tape.add(c);
        tape.add(d);
        tape.add(e);
        return tape.length();
    }

    private static int bytesIn(int number) {
        int many = 0;
        for (int shift = 24; shift >= 0; shift -= 8) {
            if ((number >>> shift & 255) != 0) {
                many++;
            }
        }
        return many;
    }

    public boolean end(int n) {
        if (!isWithin(n, 0, tape.length())) {
            return false;
        }
        tape.cut(n);
        return true;
    }

    public int fault(int sort) {
        if (sort == 0) {
            return draftSea.read(tape) ? NONE : tape.place();
        }
        if (sort == 1) {
            return draftRule.read(tape) ? NONE : tape.place();
        }
        return NO_SORT;
    }

    public int text(int sort) {
        if (sort == 0) {
            return beginSea();
        }
        return sort == 1 ? addRule() : NONE;
    }

    private int beginSea() {
        if (!draftSea.read(tape)) {
            return NONE;
        }
        sea.copy(draftSea);
        now.begin(sea);
        past.clear();
        charts.clear();
        hasKept = false;
        tape.cut(0);
        return sea.isles();
    }

    private int addRule() {
        if (!isWithin(ruleCount, 0, MOST_RULES - 1) || !draftRule.read(tape)) {
            return NONE;
        }
        rules[ruleCount].copy(draftRule);
        tape.cut(0);
        ruleCount++;
        return ruleCount - 1;
    }

    // ---- what is there ----

    public int isle(int isle, int what) throws NoSuchElementException {
        if (!isIsle(isle) || !isWithin(what, 0, 9)) {
            throw new NoSuchElementException();
        }
        switch (what) {
            case 0: return now.xOf(isle);
            case 1: return now.yOf(isle);
            case 2: return now.massOf(isle);
            case 3: return now.headOf(isle);
            case 4: return now.scarsOf(isle);
            case 5: return sea.ofIsle(isle, Sea.GOOD);
            case 6: return sea.ofIsle(isle, Sea.NEED);
            case 7: return sea.ofIsle(isle, Sea.NEEDED);
            case 8: return sea.ofIsle(isle, Sea.STOCK);
            default: return now.priceOf(isle);
        }
    }

    public int tie(int tie, int what) {
        if (!isTie(tie)) {
            return HIDDEN;
        }
        switch (what) {
            case 0: return sea.ofTie(tie, Sea.FIRST);
            case 1: return sea.ofTie(tie, Sea.SECOND);
            case 2: return now.kindOf(tie);
            case 3: return sea.ofTie(tie, Sea.STRENGTH);
            case 4: return course.pullOfTold(now, tie);
            default: return HIDDEN;
        }
    }

    public int bridge(int bridge, int what) {
        if (!isBridge(bridge)) {
            return NONE;
        }
        switch (what) {
            case 0: return sea.ofBridge(bridge, Sea.FIRST);
            case 1: return sea.ofBridge(bridge, Sea.SECOND);
            case 2: return sea.ofBridge(bridge, Sea.LENGTH);
            case 3: return now.stands(bridge) ? 1 : 0;
            default: return NONE;
        }
    }

    public int far(int one, int other) {
        return isIsle(one) && isIsle(other) ? now.apart(one, other) : NONE;
    }

    public int count(int what) {
        switch (what) {
            case 0: return sea.isles();
            case 1: return now.heads();
            case 2: return sea.ties();
            case 3: return sea.bridges();
            case 4: return ruleCount;
            case 5: return tape.length();
            case 6: return now.season();
            case 7: return holding;
            case 8: return ofWater(Sea.FREIGHT);
            case 9: return ofWater(Sea.JOIN);
            case 10: return ofWater(Sea.TRADE_PULLS);
            case 11: return ofWater(Sea.SCAR);
            case 12: return charts.many();
            case 13: return past.undoable();
            case 14: return past.noted();
            default: return HIDDEN;
        }
    }

    private int ofWater(int item) {
        return hasSea() ? sea.ofWater(item) : 0;
    }

    // ---- by hand ----

    public boolean pull(int pull) {
        if (!isWithin(pull, NONE, ruleCount - 1)) {
            return false;
        }
        holding = pull;
        course.holdBy(isWithin(pull, 0, MOST_RULES - 1) ? rules[pull] : null);
        return true;
    }

    public boolean turn(int tie) {
        if (!isTie(tie)) {
            return false;
        }
        now.turnKind(tie);
        return true;
    }

    public boolean price(int isle, int v) {
        if (!isIsle(isle) || !isWithin(v, 0, MOST_PRICE) || now.priceOf(isle) == v) {
            return false;
        }
        now.tellPrice(isle, v);
        return true;
    }

    public boolean chance(int what, int v) {
        return isWithin(v, 0, MOST_CHANCE) && weather.tell(what, v);
    }

    public int image() {
        if (!hasSea()) {
            return NONE;
        }
        kept.copy(now);
        hasKept = true;
        return now.season();
    }

    public int back() {
        if (!hasKept) {
            return NONE;
        }
        now.copy(kept);
        past.forgetStates();
        return now.season();
    }

    // ---- seasons ----

    public int go(int n) {
        if (!hasSea() || !isWithin(n, 1, MOST_SEASONS)) {
            return NONE;
        }
        for (int i = 0; i < n; i++) {
            past.keep(now);
            passSeason();
        }
        return now.season();
    }

    public int years(int n, long seed) {
        if (!hasSea() || !isWithin(n, 1, MOST_SEASONS)) {
            return NONE;
        }
        weather.begin(seed);
        for (int i = 0; i < n; i++) {
            past.keep(now);
            weather.strike(now, sea.ties());
            passSeason();
        }
        return now.season();
    }

    private void passSeason() {
        course.drawByTold();
        course.pass(now);
        past.putBy(course.parts(), course.snapped(), course.gone());
    }

    public int undo() {
        return past.takeBack(now) ? now.season() : NONE;
    }

    public int log(int i, int what) {
        return past.read(i, what);
    }

    // ---- the next season ----

    public int led(int isle, int tie, int axis) {
        if (!isIsle(isle) || !isTie(tie) || !isWithin(axis, 0, 1)) {
            return HIDDEN;
        }
        return course.ledByTold(now, isle, tie, axis);
    }

    public int drift(int isle, int axis) {
        if (!isIsle(isle) || !isWithin(axis, 0, 1)) {
            return HIDDEN;
        }
        course.drawByTold();
        return course.goesBy(now, isle, axis);
    }

    // ---- trade ----

    public int buys(int isle, int of) {
        if (!areTwo(isle, of)) {
            return NONE;
        }
        trade.run(sea, now);
        return trade.bought(isle, of);
    }

    public int pays(int isle) {
        if (!isIsle(isle)) {
            return NONE;
        }
        trade.run(sea, now);
        return trade.paidBy(isle);
    }

    public int lacks(int isle) {
        if (!isIsle(isle)) {
            return NONE;
        }
        trade.run(sea, now);
        return trade.lackOf(isle);
    }

    public int monopoly(int good, int what) {
        if (!hasSea() || !isWithin(good, 0, 3) || !isWithin(what, 0, 1)) {
            return NONE;
        }
        trade.run(sea, now);
        int who = trade.mostSelling(sea, good);
        if (who == NONE) {
            return NONE;
        }
        return what == 0 ? who : trade.soldBy(who);
    }

    public int undercut(int isle, int buyer) {
        return areTwo(isle, buyer) ? forecast.leastCut(trade, isle, buyer) : NONE;
    }

    // ---- forecasts ----

    public int ahead(int isle, int n, int what) {
        if (!isIsle(isle) || !isWithin(n, 1, MOST_SEASONS) || !isWithin(what, 0, 2)) {
            return HIDDEN;
        }
        return forecast.placeBehind(isle, n, what);
    }

    public int rest(int n) {
        return hasSea() && isWithin(n, 0, MOST_SEASONS) ? forecast.restsBehind(n) : NONE;
    }

    public int round(int n, int what) {
        if (!hasSea() || !isWithin(n, 1, MOST_SEASONS) || !isWithin(what, 0, 1)) {
            return NONE;
        }
        return forecast.roundBehind(n, what == 1);
    }

    public int one(int isle, int other, int n) {
        return areTwo(isle, other) && isWithin(n, 1, MOST_SEASONS) ? forecast.oneBehind(isle, other, n) : NONE;
    }

    public int nearest(int isle, int other, int n, int what) {
        if (!areTwo(isle, other) || !isWithin(n, 0, MOST_SEASONS) || !isWithin(what, 0, 1)) {
            return NONE;
        }
        return forecast.leastApart(isle, other, n, what == 1);
    }

    public int snap(int bridge) {
        return isBridge(bridge) ? forecast.snappedBehind(bridge) : NONE;
    }

    public int sail(int from, int to, int speed, int what) {
        if (!areTwo(from, to) || !isWithin(speed, 1, MOST_SPEED) || !isWithin(what, 0, 1)) {
            return NONE;
        }
        forecast.recordWay(to, MOST_SEASONS);
        int there = forecast.thereBehind(from, speed, MOST_SEASONS);
        if (what == 0 || there == NONE) {
            return there;
        }
        return forecast.wasOvertaken() ? 1 : 0;
    }

    public int haste(int from, int to, int n) {
        return areTwo(from, to) && isWithin(n, 1, MOST_SEASONS) ? forecast.leastSpeed(from, to, n) : NONE;
    }

    // ---- deals ----

    public int treaty(int two, int far, int n, int strength) {
        if (!isPair(two) || !isWithin(far, 0, FARTHEST) || !isWithin(n, 1, MOST_TREATY_SEASONS)
                || !isWithin(strength, 1, MOST_STRENGTH)) {
            return NONE;
        }
        deals.aim(two / 10, two % 10, 0, far, n, strength);
        for (int tried = 0; tried < Deals.MOST_ROWS; tried++) {
            if (deals.bringsTogether()) {
                return deals.pickedRow();
            }
            if (!deals.pickNext()) {
                return NONE;
            }
        }
        return NONE;
    }

    public int bicker(int two, int near, int far, int n, int strength, int what) {
        if (!isPair(two) || !isWithin(near, 0, FARTHEST) || !isWithin(far, 0, FARTHEST)
                || !isWithin(n, 1, MOST_BICKER_SEASONS) || !isWithin(strength, 1, MOST_STRENGTH)
                || !isWithin(what, 0, 1)) {
            return NONE;
        }
        deals.aim(two / 10, two % 10, near, far, n, strength);
        return deals.fewestDeals(what == 1);
    }

    // ---- charts ----

    public int chart(int season, int isle, int x, int y) {
        if (!isIsle(isle) || !isWithin(season, 1, Charts.LATEST)
                || !isWithin(x, -FARTHEST, FARTHEST) || !isWithin(y, -FARTHEST, FARTHEST)) {
            return NONE;
        }
        return charts.add(season, isle, x, y) ? charts.many() : NONE;
    }

    public int fits(int i) {
        return hasSea() ? charts.fittingSet(i) : NONE;
    }

    public int secret(int i) {
        return hasSea() ? charts.secretTie(i) : NONE;
    }

    // ---- who is seen ----

    public int sees(int isle, int r) {
        return isIsle(isle) && isWithin(r, 0, FARTHEST) ? now.seenFrom(now.headOf(isle), r) : NONE;
    }

    public int everywhere(int r) {
        return hasSea() && isWithin(r, 0, FARTHEST) ? now.seenByAll(r) : NONE;
    }

    public int when(int isle, int r, int n) {
        if (!isIsle(isle) || !isWithin(r, 0, FARTHEST) || !isWithin(n, 0, MOST_SEASONS)) {
            return NONE;
        }
        return forecast.seenByAllBehind(isle, r, n);
    }

    public int lands(int r, int what) {
        if (!hasSea() || !isWithin(r, 0, FARTHEST) || !isWithin(what, 0, 1)) {
            return NONE;
        }
        return what == 0 ? now.landCount(r) : now.largestLand(r);
    }

    public int land(int isle, int r) {
        return isIsle(isle) && isWithin(r, 0, FARTHEST) ? now.landOf(now.headOf(isle), r) : NONE;
    }

    public int wide(int what) {
        return hasSea() && isWithin(what, 0, 1) ? now.widest(what == 1) : NONE;
    }

    // ---- what is asked of the arguments ----

    private static boolean isWithin(int v, int least, int most) {
        return v >= least && v <= most;
    }

    private static int held(int v, int bound) {
        return Math.max(-bound, Math.min(bound, v));
    }

    private boolean hasSea() {
        return sea.isles() > 0;
    }

    private boolean isIsle(int isle) {
        return isWithin(isle, 0, sea.isles() - 1);
    }

    private boolean isTie(int tie) {
        return isWithin(tie, 0, sea.ties() - 1);
    }

    private boolean isBridge(int bridge) {
        return isWithin(bridge, 0, sea.bridges() - 1);
    }

    private boolean areTwo(int one, int other) {
        return isIsle(one) && isIsle(other) && one != other;
    }

    private boolean isPair(int two) {
        return two >= 0 && areTwo(two / 10, two % 10);
    }

    /** The bytes that were fed, and the place at which they are read. */
    private static final class Tape {
        private static final int MOST = 240;
        private static final int BLANK = 32;
        /** Bytes of 0 are never on the tape, so 0 can tell that it is over. */
        private static final int OVER = 0;

        private final int[] signs = new int[MOST];
        private int length;
        private int at;

        int length() {
            return length;
        }

        void cut(int n) {
            length = n;
        }

        void add(int number) {
            for (int shift = 24; shift >= 0; shift -= 8) {
                int sign = number >>> shift & 255;
                if (sign != 0 && length < MOST) {
                    signs[length] = sign;
                    length++;
                }
            }
        }

        void rewind() {
            at = 0;
        }

        int place() {
            return at;
        }

        /** The next sign that is no blank; the place is at it then. */
        int look() {
            while (at < length && signs[at] == BLANK) {
                at++;
            }
            return at < length ? signs[at] : OVER;
        }

        boolean isOver() {
            return look() == OVER;
        }

        /** Goes behind the sign that was looked at. */
        void pass() {
            at++;
        }

        boolean takes(int sign) {
            if (look() != sign) {
                return false;
            }
            at++;
            return true;
        }

        /** Goes back to the digit that was read last, as a number out of bounds is wrong there. */
        void stepBack() {
            at = Math.max(0, at - 1);
        }

        boolean isAtDigit() {
            look();
            return isDigitHere();
        }

        /** A number of at most so many digits; NONE leaves the place at the byte that is wrong. */
        int readNumber(int most) {
            look();
            if (!isDigitHere()) {
                return NONE;
            }
            int value = 0;
            for (int read = 0; read < most && isDigitHere(); read++) {
                value = value * 10 + signs[at] - '0';
                at++;
            }
            return isDigitHere() ? NONE : value;
        }

        private boolean isDigitHere() {
            return at < length && signs[at] >= '0' && signs[at] <= '9';
        }
    }

    /** The SEA as its text tells it: a row of numbers for each clause. */
    private static final class Sea {
        private static final int FREIGHT = 0;
        private static final int JOIN = 1;
        private static final int TRADE_PULLS = 2;
        private static final int SCAR = 3;
        private static final int PLACE_X = 0;
        private static final int PLACE_Y = 1;
        private static final int MASS = 2;
        private static final int GOOD = 3;
        private static final int NEED = 4;
        private static final int NEEDED = 5;
        private static final int STOCK = 6;
        private static final int PRICE = 7;
        private static final int FIRST = 0;
        private static final int SECOND = 1;
        private static final int KIND = 2;
        private static final int STRENGTH = 3;
        private static final int LENGTH = 2;
        private static final int NO_NEED = 4;

        private static final int WATERS = 0;
        private static final int ISLES = 1;
        private static final int TIES = 2;
        private static final int BRIDGES = 3;
        private static final int SORTS = 4;
        private static final int ITEMS = 8;
        private static final int ROWS = 19;
        private static final String CLAUSES = "witb";
        /** Eight for each sort of clause; a blank is no letter, as the tape's reader passes blanks. */
        private static final String LETTERS = "fjrc    xymgnqspabkw    abl     ";
        private static final int[] LEAST = {
            0, 0, 0, 1, 0, 0, 0, 0, 0, 0, 1, 0, 0, 1, 0, 0,
            0, 0, 0, 1, 0, 0, 0, 0, 0, 0, 1, 0, 0, 0, 0, 0};
        private static final int[] MOST = {
            9, 9, 1, 99, 0, 0, 0, 0, 99, 99, 9, 3, 4, 9, 99, 99,
            5, 5, 1, 9, 0, 0, 0, 0, 5, 5, 99, 0, 0, 0, 0, 0};
        private static final int[] UNTOLD = {
            1, 0, 0, 10, 0, 0, 0, 0, 50, 50, 1, 0, 4, 1, 9, 5,
            0, 1, 0, 1, 0, 0, 0, 0, 0, 1, 30, 0, 0, 0, 0, 0};
        private static final int[] MOST_CLAUSES = {1, 6, 8, 4};
        private static final int[] FIRST_ROW = {0, 1, 7, 15};

        private final int[] cells = new int[ROWS * ITEMS];
        private final int[] many = new int[SORTS];

        int isles() {
            return many[ISLES];
        }

        int ties() {
            return many[TIES];
        }

        int bridges() {
            return many[BRIDGES];
        }

        int ofWater(int item) {
            return cells[item];
        }

        int ofIsle(int isle, int item) {
            return cells[(FIRST_ROW[ISLES] + isle) * ITEMS + item];
        }

        int ofTie(int tie, int item) {
            return cells[(FIRST_ROW[TIES] + tie) * ITEMS + item];
        }

        int ofBridge(int bridge, int item) {
            return cells[(FIRST_ROW[BRIDGES] + bridge) * ITEMS + item];
        }

        void copy(Sea other) {
            System.arraycopy(other.cells, 0, cells, 0, cells.length);
            System.arraycopy(other.many, 0, many, 0, many.length);
        }

        /** False leaves the tape's place at the FAULT. */
        boolean read(Tape tape) {
            Arrays.fill(many, 0);
            fillRow(WATERS, 0);
            tape.rewind();
            for (int clause = 0; clause <= ROWS; clause++) {
                if (!readClause(tape)) {
                    return false;
                }
                if (tape.isOver()) {
                    return isWhole();
                }
                if (!tape.takes(';')) {
                    return false;
                }
            }
            return false;
        }

        private boolean readClause(Tape tape) {
            int sort = CLAUSES.indexOf((char) tape.look());
            if (sort < 0 || sort >= SORTS || many[sort] >= MOST_CLAUSES[sort]) {
                return false;
            }
            tape.pass();
            int row = FIRST_ROW[sort] + many[sort];
            many[sort]++;
            fillRow(sort, row);
            int seen = 0;
            for (int read = 0; read <= ITEMS; read++) {
                int item = itemOf(sort, tape.look());
                if (item == NONE) {
                    return true;
                }
                if ((seen >> item & 1) != 0) {
                    return false;
                }
                seen |= 1 << item;
                tape.pass();
                if (!readItem(tape, sort * ITEMS + item, row * ITEMS + item)) {
                    return false;
                }
            }
            return true;
        }

        private boolean readItem(Tape tape, int entry, int cell) {
            int value = tape.readNumber(2);
            if (value == NONE) {
                return false;
            }
            if (value < LEAST[entry] || value > MOST[entry]) {
                tape.stepBack();
                return false;
            }
            cells[cell] = value;
            return true;
        }

        private void fillRow(int sort, int row) {
            System.arraycopy(UNTOLD, sort * ITEMS, cells, row * ITEMS, ITEMS);
        }

        private static int itemOf(int sort, int sign) {
            for (int item = 0; item < ITEMS; item++) {
                if (LETTERS.charAt(sort * ITEMS + item) == sign) {
                    return item;
                }
            }
            return NONE;
        }

        private boolean isWhole() {
            boolean whole = isles() >= 2;
            for (int tie = 0; tie < ties(); tie++) {
                whole = whole && areToldTwo(ofTie(tie, FIRST), ofTie(tie, SECOND));
            }
            for (int bridge = 0; bridge < bridges(); bridge++) {
                whole = whole && areToldTwo(ofBridge(bridge, FIRST), ofBridge(bridge, SECOND));
            }
            return whole;
        }

        private boolean areToldTwo(int first, int second) {
            return first != second && first < isles() && second < isles();
        }
    }

    /** A PULL, kept with each operator behind its operands, so that its WORTH needs no recursion. */
    private static final class Rule {
        private static final int BOUND = 1000000;
        private static final int DEEPEST = 6;
        private static final int DIGITS = 4;
        private static final int LETTER_COUNT = 6;
        private static final String LETTERS = "dwkmnh";
        /** Below LETTER_COUNT an entry is a letter, from here on a number, between them a sign. */
        private static final int NUMBERS = 256;
        /** Six brackets within one another leave at most 18 numbers waiting. */
        private static final int WAITING = 32;

        private final int[] entries = new int[Tape.MOST + 1];
        private final int[] stack = new int[WAITING];
        private int length;

        void copy(Rule other) {
            System.arraycopy(other.entries, 0, entries, 0, entries.length);
            length = other.length;
        }

        /** False leaves the tape's place at the FAULT. */
        boolean read(Tape tape) {
            length = 0;
            tape.rewind();
            for (int clause = 0; clause < Tape.MOST; clause++) {
                if (!readClause(tape)) {
                    return false;
                }
                put(';');
                if (tape.isOver()) {
                    return true;
                }
                if (!tape.takes(';')) {
                    return false;
                }
            }
            return false;
        }

        private boolean readClause(Tape tape) {
            if (!tape.takes('y') || !tape.takes(':')) {
                return false;
            }
            int next = tape.look();
            boolean opensCondition = next == '!' || next == '(';
            if (!opensCondition && !readSum(tape, 0)) {
                return false;
            }
            if (!opensCondition && !isComparison(tape.look())) {
                return true;
            }
            if (!readCondition(tape, 0, !opensCondition) || !tape.takes('?')) {
                return false;
            }
            put('?');
            return readSum(tape, 0);
        }

        /** begun: the first SUM of its first UNIT has been read already. */
        private boolean readCondition(Tape tape, int depth, boolean begun) {
            if (!readTruth(tape, depth, begun)) {
                return false;
            }
            for (int more = 0; more < Tape.MOST && tape.takes('|'); more++) {
                if (!readTruth(tape, depth, false)) {
                    return false;
                }
                put('|');
            }
            return true;
        }

        private boolean readTruth(Tape tape, int depth, boolean begun) {
            if (!readUnit(tape, depth, begun)) {
                return false;
            }
            for (int more = 0; more < Tape.MOST && tape.takes('&'); more++) {
                if (!readUnit(tape, depth, false)) {
                    return false;
                }
                put('&');
            }
            return true;
        }

        private boolean readUnit(Tape tape, int depth, boolean begun) {
            int sign = tape.look();
            if (!begun && (sign == '!' || sign == '(')) {
                return readNested(tape, depth, sign);
            }
            if (!begun && !readSum(tape, depth)) {
                return false;
            }
            int comparison = tape.look();
            if (!isComparison(comparison)) {
                return false;
            }
            tape.pass();
            if (!readSum(tape, depth)) {
                return false;
            }
            put(comparison);
            return true;
        }

        private boolean readNested(Tape tape, int depth, int sign) {
            if (depth >= DEEPEST) {
                return false;
            }
            tape.pass();
            if (sign == '(') {
                return readCondition(tape, depth + 1, false) && tape.takes(')');
            }
            if (!readUnit(tape, depth + 1, false)) {
                return false;
            }
            put('!');
            return true;
        }

        private boolean readSum(Tape tape, int depth) {
            if (!readTerm(tape, depth)) {
                return false;
            }
            for (int more = 0; more < Tape.MOST; more++) {
                int sign = tape.look();
                if (sign != '+' && sign != '-') {
                    return true;
                }
                tape.pass();
                if (!readTerm(tape, depth)) {
                    return false;
                }
                put(sign);
            }
            return true;
        }

        private boolean readTerm(Tape tape, int depth) {
            if (!readAtom(tape, depth)) {
                return false;
            }
            for (int more = 0; more < Tape.MOST; more++) {
                int sign = tape.look();
                if (sign != '*' && sign != '/') {
                    return true;
                }
                tape.pass();
                if (!readAtom(tape, depth)) {
                    return false;
                }
                put(sign);
            }
            return true;
        }

        private boolean readAtom(Tape tape, int depth) {
            if (tape.isAtDigit()) {
                int value = tape.readNumber(DIGITS);
                if (value != NONE) {
                    put(NUMBERS + value);
                }
                return value != NONE;
            }
            int sign = tape.look();
            if (sign == '[') {
                return readBracket(tape, depth);
            }
            int letter = LETTERS.indexOf((char) sign);
            if (letter < 0) {
                return false;
            }
            tape.pass();
            put(letter);
            return true;
        }

        private boolean readBracket(Tape tape, int depth) {
            if (depth >= DEEPEST) {
                return false;
            }
            tape.pass();
            return readSum(tape, depth + 1) && tape.takes(']');
        }

        private static boolean isComparison(int sign) {
            return sign == '=' || sign == '<' || sign == '>';
        }

        private void put(int entry) {
            if (length < entries.length) {
                entries[length] = entry;
                length++;
            }
        }

        /** letters: what d w k m n h are. */
        int worth(int[] letters) {
            int top = 0;
            boolean passedOver = false;
            for (int at = 0; at < length; at++) {
                int entry = entries[at];
                if (passedOver) {
                    passedOver = entry != ';';
                } else if (entry >= NUMBERS || entry < LETTER_COUNT) {
                    if (top >= WAITING) {
                        return 0;
                    }
                    stack[top] = entry >= NUMBERS ? entry - NUMBERS : letters[entry];
                    top++;
                } else if (top < 1) {
                    return 0;
                } else if (entry == ';') {
                    return stack[top - 1];
                } else if (entry == '?') {
                    top--;
                    passedOver = stack[top] == 0;
                } else if (entry == '!') {
                    stack[top - 1] = 1 - stack[top - 1];
                } else if (top < 2) {
                    return 0;
                } else {
                    top--;
                    long joined = join(entry, stack[top - 1], stack[top]);
                    stack[top - 1] = (int) Math.max(-BOUND, Math.min(BOUND, joined));
                }
            }
            return 0;
        }

        private static long join(int sign, long left, long right) {
            switch (sign) {
                case '+': return left + right;
                case '-': return left - right;
                case '*': return left * right;
                case '/': return right == 0 ? 0 : left / right;
                case '=': return left == right ? 1 : 0;
                case '<': return left < right ? 1 : 0;
                case '>': return left > right ? 1 : 0;
                case '&': return left & right;
                default: return left | right;
            }
        }
    }

    /** All that seasons and hands change. An ISLE that is not told has NONE as its HEAD. */
    private static final class State {
        private static final int X = 0;
        private static final int Y = 6;
        private static final int MASS = 12;
        private static final int HEAD = 18;
        private static final int SCARS = 24;
        private static final int KIND = 30;
        private static final int STANDS = 38;
        private static final int SEASON = 42;
        /** Prices stand last, as a season that is undone leaves them. */
        private static final int PRICE = 43;
        private static final int CELLS = 49;

        private final int[] cells = new int[CELLS];

        State() {
            Arrays.fill(cells, HEAD, HEAD + MOST_ISLES, NONE);
        }

        void begin(Sea sea) {
            Arrays.fill(cells, 0);
            for (int isle = 0; isle < MOST_ISLES; isle++) {
                boolean told = isle < sea.isles();
                cells[HEAD + isle] = told ? isle : NONE;
                if (told) {
                    cells[X + isle] = sea.ofIsle(isle, Sea.PLACE_X);
                    cells[Y + isle] = sea.ofIsle(isle, Sea.PLACE_Y);
                    cells[MASS + isle] = sea.ofIsle(isle, Sea.MASS);
                    cells[PRICE + isle] = sea.ofIsle(isle, Sea.PRICE);
                }
            }
            for (int tie = 0; tie < sea.ties(); tie++) {
                cells[KIND + tie] = sea.ofTie(tie, Sea.KIND);
            }
            Arrays.fill(cells, STANDS, STANDS + MOST_BRIDGES, 1);
        }

        void copy(State other) {
            System.arraycopy(other.cells, 0, cells, 0, CELLS);
        }

        void copyButPrices(State other) {
            System.arraycopy(other.cells, 0, cells, 0, PRICE);
        }

        int headOf(int isle) {
            return cells[HEAD + isle];
        }

        boolean isHead(int isle) {
            return cells[HEAD + isle] == isle;
        }

        int xOf(int isle) {
            return cells[X + cells[HEAD + isle]];
        }

        int yOf(int isle) {
            return cells[Y + cells[HEAD + isle]];
        }

        int massOf(int isle) {
            return cells[MASS + cells[HEAD + isle]];
        }

        int scarsOf(int isle) {
            return cells[SCARS + cells[HEAD + isle]];
        }

        int kindOf(int tie) {
            return cells[KIND + tie];
        }

        int priceOf(int isle) {
            return cells[PRICE + isle];
        }

        boolean stands(int bridge) {
            return cells[STANDS + bridge] == 1;
        }

        int season() {
            return cells[SEASON];
        }

        void turnKind(int tie) {
            cells[KIND + tie] = 1 - cells[KIND + tie];
        }

        void tellPrice(int isle, int price) {
            cells[PRICE + isle] = price;
        }

        void breakBridge(int bridge) {
            cells[STANDS + bridge] = 0;
        }

        void nextSeason() {
            cells[SEASON]++;
        }

        void putAt(int head, int x, int y) {
            cells[X + head] = held(x, FARTHEST);
            cells[Y + head] = held(y, FARTHEST);
        }

        void becomeOne(int lower, int higher, int newScars) {
            cells[MASS + lower] = Math.min(MOST_MASS, cells[MASS + lower] + cells[MASS + higher]);
            cells[SCARS + lower] += cells[SCARS + higher] + newScars;
            for (int isle = 0; isle < MOST_ISLES; isle++) {
                if (cells[HEAD + isle] == higher) {
                    cells[HEAD + isle] = lower;
                }
            }
        }

        int apart(int one, int other) {
            int byX = cells[X + cells[HEAD + one]] - cells[X + cells[HEAD + other]];
            int byY = cells[Y + cells[HEAD + one]] - cells[Y + cells[HEAD + other]];
            return (byX < 0 ? -byX : byX) + (byY < 0 ? -byY : byY);
        }

        int heads() {
            int many = 0;
            for (int isle = 0; isle < MOST_ISLES; isle++) {
                if (isHead(isle)) {
                    many++;
                }
            }
            return many;
        }

        /** The HEAD with so many lower ones; NONE: there are not so many. */
        int headByNumber(int number) {
            int lower = 0;
            for (int isle = 0; isle < MOST_ISLES; isle++) {
                if (isHead(isle)) {
                    if (lower == number) {
                        return isle;
                    }
                    lower++;
                }
            }
            return NONE;
        }

        int seenFrom(int head, int r) {
            int bits = 0;
            for (int other = 0; other < MOST_ISLES; other++) {
                if (other != head && isHead(other) && apart(head, other) <= r) {
                    bits |= 1 << other;
                }
            }
            return bits;
        }

        boolean isSeenByAll(int head, int r) {
            for (int other = 0; other < MOST_ISLES; other++) {
                if (isHead(other) && apart(head, other) > r) {
                    return false;
                }
            }
            return true;
        }

        int seenByAll(int r) {
            int bits = 0;
            for (int head = 0; head < MOST_ISLES; head++) {
                if (isHead(head) && isSeenByAll(head, r)) {
                    bits |= 1 << head;
                }
            }
            return bits;
        }

        int landOf(int head, int r) {
            int bits = 1 << head;
            for (int steps = 0; steps < MOST_ISLES; steps++) {
                for (int isle = 0; isle < MOST_ISLES; isle++) {
                    if ((bits >> isle & 1) != 0) {
                        bits |= seenFrom(isle, r);
                    }
                }
            }
            return bits;
        }

        int landCount(int r) {
            int many = 0;
            int known = 0;
            for (int head = 0; head < MOST_ISLES; head++) {
                if (isHead(head) && (known >> head & 1) == 0) {
                    known |= landOf(head, r);
                    many++;
                }
            }
            return many;
        }

        int largestLand(int r) {
            int most = 0;
            for (int head = 0; head < MOST_ISLES; head++) {
                if (isHead(head)) {
                    most = Math.max(most, Integer.bitCount(landOf(head, r)));
                }
            }
            return most;
        }

        int widest(boolean which) {
            int most = NONE;
            int pair = NONE;
            for (int lower = 0; lower < MOST_ISLES; lower++) {
                for (int other = lower + 1; other < MOST_ISLES; other++) {
                    if (isHead(lower) && isHead(other) && apart(lower, other) > most) {
                        most = apart(lower, other);
                        pair = 10 * lower + other;
                    }
                }
            }
            return which ? pair : most;
        }
    }

    /** The TRADE of one season. */
    private static final class Trade {
        private final int[] amounts = new int[MOST_ISLES * MOST_ISLES];
        private final int[] paid = new int[MOST_ISLES];
        private final int[] lacking = new int[MOST_ISLES];
        private final int[] left = new int[MOST_ISLES];
        private int leastCost;

        void run(Sea sea, State state) {
            Arrays.fill(amounts, 0);
            Arrays.fill(paid, 0);
            Arrays.fill(lacking, 0);
            for (int isle = 0; isle < sea.isles(); isle++) {
                left[isle] = sea.ofIsle(isle, Sea.STOCK);
            }
            for (int isle = 0; isle < sea.isles(); isle++) {
                if (state.isHead(isle) && sea.ofIsle(isle, Sea.NEED) != Sea.NO_NEED) {
                    lacking[isle] = sea.ofIsle(isle, Sea.NEEDED);
                    buyAll(sea, state, isle);
                }
            }
        }

        private void buyAll(Sea sea, State state, int buyer) {
            // Each purchase ends the need or a stock, so there is at most one of each seller.
            for (int purchase = 0; purchase < MOST_ISLES && lacking[buyer] > 0; purchase++) {
                int seller = cheapest(sea, state, buyer);
                if (seller == NONE) {
                    return;
                }
                int amount = Math.min(lacking[buyer], left[seller]);
                amounts[buyer * MOST_ISLES + seller] += amount;
                paid[buyer] += amount * leastCost;
                lacking[buyer] -= amount;
                left[seller] -= amount;
            }
        }

        /** Leaves in leastCost what one of it costs there. */
        private int cheapest(Sea sea, State state, int buyer) {
            int best = NONE;
            for (int seller = 0; seller < sea.isles(); seller++) {
                if (seller != buyer && state.isHead(seller) && left[seller] > 0
                        && sea.ofIsle(seller, Sea.GOOD) == sea.ofIsle(buyer, Sea.NEED)) {
                    int cost = state.priceOf(seller) + sea.ofWater(Sea.FREIGHT) * state.apart(buyer, seller);
                    if (best == NONE || cost < leastCost) {
                        best = seller;
                        leastCost = cost;
                    }
                }
            }
            return best;
        }

        int bought(int buyer, int seller) {
            return amounts[buyer * MOST_ISLES + seller];
        }

        int paidBy(int isle) {
            return paid[isle];
        }

        int lackOf(int isle) {
            return lacking[isle];
        }

        int soldBy(int seller) {
            int sum = 0;
            for (int buyer = 0; buyer < MOST_ISLES; buyer++) {
                sum += bought(buyer, seller);
            }
            return sum;
        }

        int mostSelling(Sea sea, int good) {
            int who = NONE;
            int most = 0;
            for (int isle = 0; isle < sea.isles(); isle++) {
                if (sea.ofIsle(isle, Sea.GOOD) == good && soldBy(isle) > most) {
                    who = isle;
                    most = soldBy(isle);
                }
            }
            return who;
        }
    }

    /** How a season goes by, with the told TIES or some of them, and with further ones. */
    private static final class Course {
        private static final int ALL_TIES = 255;

        private final Sea sea;
        private final Trade trade = new Trade();
        private final int[] letters = new int[Rule.LETTER_COUNT];
        private final int[] drawnX = new int[MOST_ISLES];
        private final int[] drawnY = new int[MOST_ISLES];
        private final int[] wasX = new int[MOST_ISLES];
        private final int[] wasY = new int[MOST_ISLES];
        private final int[] furtherFirst = new int[MOST_TREATIES];
        private final int[] furtherSecond = new int[MOST_TREATIES];
        private final int[] furtherKind = new int[MOST_TREATIES];
        private final int[] furtherStrength = new int[MOST_TREATIES];
        private Rule rule;
        private int drawing = ALL_TIES;
        private int further;
        private int parts;
        private int snapped;
        private int gone;

        Course(Sea sea) {
            this.sea = sea;
        }

        /** null: none holds. */
        void holdBy(Rule newRule) {
            rule = newRule;
        }

        /** From here on all told TIES draw, and no others. */
        void drawByTold() {
            drawing = ALL_TIES;
            further = 0;
        }

        /** From here on the told TIES of a set draw, and no others. */
        void drawBySet(int bits) {
            drawing = bits;
            further = 0;
        }

        void addTie(int first, int second, int kind, int strength) {
            if (further < MOST_TREATIES) {
                furtherFirst[further] = first;
                furtherSecond[further] = second;
                furtherKind[further] = kind;
                furtherStrength[further] = strength;
                further++;
            }
        }

        int parts() {
            return parts;
        }

        int snapped() {
            return snapped;
        }

        int gone() {
            return gone;
        }

        boolean movedNothing() {
            return gone == 0 && parts == 0;
        }

        /** One season. */
        void pass(State state) {
            drawByTies(state);
            if (doesTradePull()) {
                trade.run(sea, state);
                drawByTrade(state);
            }
            moveAll(state);
            parts = 0;
            for (int joined = 0; joined < MOST_ISLES && joinFirstPair(state); joined++) {
                parts++;
            }
            snapBridges(state);
            state.nextSeason();
        }

        /** How far an ISLE goes in the next season, in x (axis 0) or in y. */
        int goesBy(State state, int isle, int axis) {
            drawByTies(state);
            if (doesTradePull()) {
                trade.run(sea, state);
                drawByTrade(state);
            }
            int head = state.headOf(isle);
            int mass = Math.max(1, state.massOf(head));
            int from = axis == 0 ? state.xOf(head) : state.yOf(head);
            int drawn = axis == 0 ? drawnX[head] : drawnY[head];
            return held(from + drawn / mass, FARTHEST) - from;
        }

        int pullOfTold(State state, int tie) {
            return pullOf(state, sea.ofTie(tie, Sea.FIRST), sea.ofTie(tie, Sea.SECOND),
                    state.kindOf(tie), sea.ofTie(tie, Sea.STRENGTH));
        }

        int ledByTold(State state, int isle, int tie, int axis) {
            int first = sea.ofTie(tie, Sea.FIRST);
            int second = sea.ofTie(tie, Sea.SECOND);
            int apart = state.apart(first, second);
            if (apart == 0) {
                return 0;
            }
            int way = axis == 0 ? state.xOf(second) - state.xOf(first) : state.yOf(second) - state.yOf(first);
            int led = pullOfTold(state, tie) * way / apart;
            int head = state.headOf(isle);
            if (head == state.headOf(first)) {
                return led;
            }
            return head == state.headOf(second) ? -led : 0;
        }

        private int pullOf(State state, int first, int second, int kind, int strength) {
            int apart = state.apart(first, second);
            if (apart == 0) {
                return 0;
            }
            if (rule == null) {
                return kind == 0 ? strength : -strength;
            }
            letters[0] = apart;
            letters[1] = strength;
            letters[2] = kind;
            letters[3] = state.massOf(first);
            letters[4] = state.massOf(second);
            letters[5] = state.season();
            return held(rule.worth(letters), MOST_PULL);
        }

        private void drawByTies(State state) {
            Arrays.fill(drawnX, 0);
            Arrays.fill(drawnY, 0);
            for (int tie = 0; tie < sea.ties(); tie++) {
                if ((drawing >> tie & 1) != 0) {
                    int first = sea.ofTie(tie, Sea.FIRST);
                    int second = sea.ofTie(tie, Sea.SECOND);
                    int pull = pullOf(state, first, second, state.kindOf(tie), sea.ofTie(tie, Sea.STRENGTH));
                    drawTwo(state, first, second, pull);
                }
            }
            for (int i = 0; i < further; i++) {
                int pull = pullOf(state, furtherFirst[i], furtherSecond[i], furtherKind[i], furtherStrength[i]);
                drawTwo(state, furtherFirst[i], furtherSecond[i], pull);
            }
        }

        private boolean doesTradePull() {
            return sea.ofWater(Sea.TRADE_PULLS) == 1;
        }

        private void drawByTrade(State state) {
            for (int buyer = 0; buyer < sea.isles(); buyer++) {
                for (int seller = 0; seller < sea.isles(); seller++) {
                    if (trade.bought(buyer, seller) > 0) {
                        drawTwo(state, buyer, seller, trade.bought(buyer, seller));
                    }
                }
            }
        }

        private void drawTwo(State state, int first, int second, int pull) {
            int apart = pull == 0 ? 0 : state.apart(first, second);
            if (apart == 0) {
                return;
            }
            int x = pull * (state.xOf(second) - state.xOf(first)) / apart;
            int y = pull * (state.yOf(second) - state.yOf(first)) / apart;
            int firstHead = state.headOf(first);
            int secondHead = state.headOf(second);
            drawnX[firstHead] += x;
            drawnY[firstHead] += y;
            drawnX[secondHead] -= x;
            drawnY[secondHead] -= y;
        }

        private void moveAll(State state) {
            gone = 0;
            for (int isle = 0; isle < MOST_ISLES; isle++) {
                if (state.isHead(isle)) {
                    int mass = Math.max(1, state.massOf(isle));
                    wasX[isle] = state.xOf(isle);
                    wasY[isle] = state.yOf(isle);
                    state.putAt(isle, wasX[isle] + drawnX[isle] / mass, wasY[isle] + drawnY[isle] / mass);
                    gone += Math.abs(state.xOf(isle) - wasX[isle]) + Math.abs(state.yOf(isle) - wasY[isle]);
                }
            }
        }

        private boolean joinFirstPair(State state) {
            int join = sea.ofWater(Sea.JOIN);
            for (int lower = 0; lower < MOST_ISLES; lower++) {
                for (int higher = lower + 1; higher < MOST_ISLES && state.isHead(lower); higher++) {
                    if (state.isHead(higher) && state.apart(lower, higher) <= join) {
                        joinTwo(state, lower, higher);
                        return true;
                    }
                }
            }
            return false;
        }

        private void joinTwo(State state, int lower, int higher) {
            int was = Math.abs(wasX[lower] - wasX[higher]) + Math.abs(wasY[lower] - wasY[higher]);
            boolean scarred = was - state.apart(lower, higher) > sea.ofWater(Sea.SCAR);
            state.becomeOne(lower, higher, scarred ? 1 : 0);
        }

        private void snapBridges(State state) {
            snapped = 0;
            for (int bridge = 0; bridge < sea.bridges(); bridge++) {
                int apart = state.apart(sea.ofBridge(bridge, Sea.FIRST), sea.ofBridge(bridge, Sea.SECOND));
                if (state.stands(bridge) && apart > sea.ofBridge(bridge, Sea.LENGTH)) {
                    state.breakBridge(bridge);
                    snapped++;
                }
            }
        }
    }

    /** What was ahead of the latest seasons, and what is put by of them. */
    private static final class Past {
        private static final int MOST_STATES = 30;
        private static final int MOST_PUT_BY = 60;
        private static final int WHATS = 3;

        private final State[] states = new State[MOST_STATES];
        private final int[] notes = new int[MOST_PUT_BY * WHATS];
        private int stateCount;
        private int nextState;
        private int noteCount;
        private int nextNote;

        Past() {
            for (int i = 0; i < MOST_STATES; i++) {
                states[i] = new State();
            }
        }

        int undoable() {
            return stateCount;
        }

        int noted() {
            return noteCount;
        }

        void clear() {
            forgetStates();
            noteCount = 0;
        }

        void forgetStates() {
            stateCount = 0;
        }

        void keep(State state) {
            states[nextState].copy(state);
            nextState = (nextState + 1) % MOST_STATES;
            stateCount = Math.min(MOST_STATES, stateCount + 1);
        }

        void putBy(int parts, int snapped, int gone) {
            notes[nextNote * WHATS] = parts;
            notes[nextNote * WHATS + 1] = snapped;
            notes[nextNote * WHATS + 2] = gone;
            nextNote = (nextNote + 1) % MOST_PUT_BY;
            noteCount = Math.min(MOST_PUT_BY, noteCount + 1);
        }

        /** The latest season undone in a state; false: there is none. */
        boolean takeBack(State state) {
            if (stateCount == 0) {
                return false;
            }
            nextState = (nextState + MOST_STATES - 1) % MOST_STATES;
            stateCount--;
            state.copyButPrices(states[nextState]);
            if (noteCount > 0) {
                nextNote = (nextNote + MOST_PUT_BY - 1) % MOST_PUT_BY;
                noteCount--;
            }
            return true;
        }

        int read(int i, int what) {
            if (!isWithin(i, 0, noteCount - 1) || !isWithin(what, 0, WHATS - 1)) {
                return NONE;
            }
            int note = (nextNote + MOST_PUT_BY - 1 - i) % MOST_PUT_BY;
            return notes[note * WHATS + what];
        }
    }

    /** STORM and SALT, and the draws that bring them. */
    private static final class Weather {
        private static final long TIMES = 6364136223846793005L;
        private static final long PLUS = 1442695040888963407L;
        private static final int HUNDRED = 100;
        private static final int TOSS = 9;

        private int storm;
        private int salt;
        private long x;

        /** STORM (what 0) or SALT (1); false: no such what, it is so. */
        boolean tell(int what, int v) {
            if (what == 0 && storm != v) {
                storm = v;
                return true;
            }
            if (what == 1 && salt != v) {
                salt = v;
                return true;
            }
            return false;
        }

        void begin(long seed) {
            x = seed;
        }

        void strike(State state, int ties) {
            if (draw(HUNDRED) < storm) {
                toss(state);
            }
            if (draw(HUNDRED) < salt && ties > 0) {
                state.turnKind(draw(ties));
            }
        }

        private void toss(State state) {
            int head = state.headByNumber(draw(state.heads()));
            int byX = draw(2 * TOSS + 1) - TOSS;
            int byY = draw(2 * TOSS + 1) - TOSS;
            if (head != NONE) {
                state.putAt(head, state.xOf(head) + byX, state.yOf(head) + byY);
            }
        }

        private int draw(int k) {
            x = x * TIMES + PLUS;
            return k > 0 ? (int) ((x >>> 33) % k) : 0;
        }
    }

    /** What seasons bring from as it is, without STORMS and SALT. */
    private static final class Forecast {
        private static final int ROW = 4 * MOST_ISLES;

        private final Sea sea;
        private final Course course;
        private final State now;
        private final State then = new State();
        private final int[] seen = new int[(MOST_SEASONS + 1) * ROW];
        private final int[] wayX = new int[MOST_SEASONS + 1];
        private final int[] wayY = new int[MOST_SEASONS + 1];
        private boolean overtaken;

        Forecast(Sea sea, Course course, State now) {
            this.sea = sea;
            this.course = course;
            this.now = now;
        }

        private void begin() {
            then.copy(now);
            course.drawByTold();
        }

        int leastCut(Trade trade, int isle, int buyer) {
            then.copy(now);
            int price = now.priceOf(isle);
            for (int cut = 0; cut <= price; cut++) {
                then.tellPrice(isle, price - cut);
                trade.run(sea, then);
                if (trade.bought(buyer, isle) > 0) {
                    return cut;
                }
            }
            return NONE;
        }

        int placeBehind(int isle, int n, int what) {
            begin();
            for (int season = 1; season <= n; season++) {
                course.pass(then);
            }
            switch (what) {
                case 0: return then.xOf(isle);
                case 1: return then.yOf(isle);
                default: return then.headOf(isle);
            }
        }

        int restsBehind(int n) {
            begin();
            for (int season = 0; season <= n; season++) {
                course.pass(then);
                if (course.movedNothing()) {
                    return season;
                }
            }
            return NONE;
        }

        int roundBehind(int n, boolean howLong) {
            begin();
            remember(0);
            for (int season = 1; season <= n; season++) {
                course.pass(then);
                remember(season);
                for (int earlier = 0; earlier < season; earlier++) {
                    if (areAlike(earlier, season)) {
                        return howLong ? season - earlier : season;
                    }
                }
            }
            return NONE;
        }

        private void remember(int season) {
            int cell = season * ROW;
            for (int isle = 0; isle < sea.isles(); isle++) {
                seen[cell] = then.xOf(isle);
                seen[cell + 1] = then.yOf(isle);
                seen[cell + 2] = then.massOf(isle);
                seen[cell + 3] = then.headOf(isle);
                cell += 4;
            }
        }

        private boolean areAlike(int earlier, int later) {
            for (int i = 0; i < 4 * sea.isles(); i++) {
                if (seen[earlier * ROW + i] != seen[later * ROW + i]) {
                    return false;
                }
            }
            return true;
        }

        int oneBehind(int isle, int other, int n) {
            begin();
            for (int season = 0; season < n; season++) {
                if (then.headOf(isle) == then.headOf(other)) {
                    return season;
                }
                course.pass(then);
            }
            return then.headOf(isle) == then.headOf(other) ? n : NONE;
        }

        int leastApart(int isle, int other, int n, boolean behindHowMany) {
            begin();
            int least = then.apart(isle, other);
            int first = 0;
            for (int season = 1; season <= n; season++) {
                course.pass(then);
                if (then.apart(isle, other) < least) {
                    least = then.apart(isle, other);
                    first = season;
                }
            }
            return behindHowMany ? first : least;
        }

        int snappedBehind(int bridge) {
            begin();
            for (int season = 0; season < MOST_SEASONS; season++) {
                if (!then.stands(bridge)) {
                    return season;
                }
                course.pass(then);
            }
            return then.stands(bridge) ? NONE : MOST_SEASONS;
        }

        int seenByAllBehind(int isle, int r, int n) {
            begin();
            for (int season = 0; season < n; season++) {
                if (then.isSeenByAll(then.headOf(isle), r)) {
                    return season;
                }
                course.pass(then);
            }
            return then.isSeenByAll(then.headOf(isle), r) ? n : NONE;
        }

        /** Where an ISLE is behind each of n seasons: the ships that sail to it do not change that. */
        void recordWay(int isle, int n) {
            begin();
            for (int season = 1; season <= n; season++) {
                course.pass(then);
                wayX[season] = then.xOf(isle);
                wayY[season] = then.yOf(isle);
            }
        }

        /** Behind how many seasons a ship is where the recorded way is then. */
        int thereBehind(int from, int speed, int n) {
            int x = now.xOf(from);
            int y = now.yOf(from);
            for (int season = 1; season <= n; season++) {
                overtaken = x == wayX[season] && y == wayY[season];
                int byX = held(wayX[season] - x, speed);
                int byY = held(wayY[season] - y, speed - Math.abs(byX));
                x += byX;
                y += byY;
                if (x == wayX[season] && y == wayY[season]) {
                    return season;
                }
            }
            return NONE;
        }

        /** Whether the isle came to the ship by its own way. */
        boolean wasOvertaken() {
            return overtaken;
        }

        int leastSpeed(int from, int to, int n) {
            recordWay(to, n);
            for (int speed = 1; speed <= MOST_SPEED; speed++) {
                if (thereBehind(from, speed, n) != NONE) {
                    return speed;
                }
            }
            return NONE;
        }
    }

    /** TREATIES and BICKERING, by trying all. */
    private static final class Deals {
        private static final int MOST_PAIRS = 15;
        /** Rows of none, one, two and three of fifteen pairs: 1 + 15 + 105 + 455. */
        private static final int MOST_ROWS = 576;

        private final Sea sea;
        private final Course course;
        private final State now;
        private final State then = new State();
        private final int[] lowers = new int[MOST_PAIRS];
        private final int[] highers = new int[MOST_PAIRS];
        private final int[] picks = new int[MOST_TREATIES];
        private int pairs;
        private int picked;
        private int one;
        private int other;
        private int least;
        private int farthest;
        private int seasons;
        private int strength;

        Deals(Sea sea, Course course, State now) {
            this.sea = sea;
            this.course = course;
            this.now = now;
        }

        /** What is wanted: two ISLES between near and far, behind so many seasons, by deals of a STRENGTH. */
        void aim(int newOne, int newOther, int near, int far, int newSeasons, int newStrength) {
            one = newOne;
            other = newOther;
            least = near;
            farthest = far;
            seasons = newSeasons;
            strength = newStrength;
            picked = 0;
            tellPairs();
        }

        /** Parts of one HEAD are no pair: a bargain within it draws nothing, and parts never part. */
        private void tellPairs() {
            pairs = 0;
            for (int lower = 0; lower < sea.isles(); lower++) {
                for (int higher = lower + 1; higher < sea.isles(); higher++) {
                    if (pairs < MOST_PAIRS && now.headOf(lower) != now.headOf(higher)) {
                        lowers[pairs] = lower;
                        highers[pairs] = higher;
                        pairs++;
                    }
                }
            }
        }

        /** Whether the bargains of the row of pairs that is picked bring the two together. */
        boolean bringsTogether() {
            then.copy(now);
            course.drawByTold();
            for (int i = 0; i < picked; i++) {
                course.addTie(lowers[picks[i]], highers[picks[i]], 0, strength);
            }
            for (int season = 0; season < seasons; season++) {
                course.pass(then);
            }
            return then.apart(one, other) <= farthest;
        }

        int pickedRow() {
            int row = 0;
            for (int i = 0; i < picked; i++) {
                row = row * 100 + 10 * lowers[picks[i]] + highers[picks[i]];
            }
            return row;
        }

        /** Picks the next row: fewer pairs come first, then the lesser row; false: there is none. */
        boolean pickNext() {
            for (int i = picked - 1; i >= 0; i--) {
                if (picks[i] < pairs - picked + i) {
                    picks[i]++;
                    for (int later = i + 1; later < picked; later++) {
                        picks[later] = picks[later - 1] + 1;
                    }
                    return true;
                }
            }
            return pickFirst(picked + 1);
        }

        private boolean pickFirst(int many) {
            if (many > pairs || many > MOST_TREATIES) {
                return false;
            }
            picked = many;
            for (int i = 0; i < many; i++) {
                picks[i] = i;
            }
            return true;
        }

        int fewestDeals(boolean howMany) {
            int best = NONE;
            int fewest = seasons + 1;
            int ways = 1;
            for (int i = 0; i < seasons; i++) {
                ways *= 3;
            }
            for (int way = 0; way < ways; way++) {
                int deals = dealsIn(way);
                if (deals < fewest && keepsBetween(way, ways)) {
                    best = way;
                    fewest = deals;
                }
            }
            if (best == NONE) {
                return NONE;
            }
            return howMany ? fewest : asDigits(best, ways);
        }

        private static int dealsIn(int way) {
            int deals = 0;
            for (int left = way; left > 0; left /= 3) {
                if (left % 3 != 0) {
                    deals++;
                }
            }
            return deals;
        }

        private static int asDigits(int way, int ways) {
            int digits = 0;
            for (int weight = ways / 3; weight > 0; weight /= 3) {
                digits = digits * 10 + way / weight % 3;
            }
            return digits;
        }

        private boolean keepsBetween(int way, int ways) {
            then.copy(now);
            for (int weight = ways / 3; weight > 0; weight /= 3) {
                int deal = way / weight % 3;
                course.drawByTold();
                if (deal > 0) {
                    course.addTie(one, other, deal - 1, strength);
                }
                course.pass(then);
                if (!isWithin(then.apart(one, other), least, farthest)) {
                    return false;
                }
            }
            return true;
        }
    }

    /** CHARTS, and the TIES with which all of them are so. */
    private static final class Charts {
        private static final int MOST_CHARTS = 20;
        private static final int LATEST = 20;
        private static final int MOST_SECRET = 3;

        private final Sea sea;
        private final Course course;
        private final State now;
        private final State then = new State();
        private final int[] seasons = new int[MOST_CHARTS];
        private final int[] isles = new int[MOST_CHARTS];
        private final int[] xs = new int[MOST_CHARTS];
        private final int[] ys = new int[MOST_CHARTS];
        private int many;

        Charts(Sea sea, Course course, State now) {
            this.sea = sea;
            this.course = course;
            this.now = now;
        }

        int many() {
            return many;
        }

        void clear() {
            many = 0;
        }

        boolean add(int season, int isle, int x, int y) {
            if (many >= MOST_CHARTS) {
                return false;
            }
            seasons[many] = season;
            isles[many] = isle;
            xs[many] = x;
            ys[many] = y;
            many++;
            return true;
        }

        /** The i-th set of TIES that fits, or how many do (i NONE). */
        int fittingSet(int i) {
            int found = 0;
            for (int set = 0; set < 1 << sea.ties(); set++) {
                course.drawBySet(set);
                if (areSo()) {
                    if (found == i) {
                        return set;
                    }
                    found++;
                }
            }
            return i == NONE ? found : NONE;
        }

        /** The i-th TIE more that fits, or how many do (i NONE). */
        int secretTie(int i) {
            int found = 0;
            for (int lower = 0; lower < sea.isles(); lower++) {
                for (int other = lower + 1; other < sea.isles(); other++) {
                    for (int deal = 0; deal < 2 * MOST_SECRET; deal++) {
                        int kind = deal / MOST_SECRET;
                        int strength = deal % MOST_SECRET + 1;
                        course.drawByTold();
                        course.addTie(lower, other, kind, strength);
                        if (areSo()) {
                            if (found == i) {
                                return 1000 * lower + 100 * other + 10 * kind + strength;
                            }
                            found++;
                        }
                    }
                }
            }
            return i == NONE ? found : NONE;
        }

        private boolean areSo() {
            int latest = 0;
            for (int i = 0; i < many; i++) {
                latest = Math.max(latest, seasons[i]);
            }
            then.copy(now);
            for (int season = 1; season <= latest; season++) {
                course.pass(then);
                if (!areSoBehind(season)) {
                    return false;
                }
            }
            return true;
        }

        private boolean areSoBehind(int season) {
            for (int i = 0; i < many; i++) {
                if (seasons[i] == season && (then.xOf(isles[i]) != xs[i] || then.yOf(isles[i]) != ys[i])) {
                    return false;
                }
            }
            return true;
        }
    }
}
