/** A market of left-overs, in which nothing new may be sold. The document numbers what it promises. */
public final class CrustMarket {
    public static final int NONE = -1;

    private static final int NO_GOING = NONE - 99999;
    private static final int NO_LOOK = NONE - 999999;
    private static final int MILLION = 1000000;
    // Above every sum of SIZES and every number of stalls.
    private static final int FAR_ABOVE = 1000000;

    private static final int MOST_KINDS = 6;
    private static final int MOST_REMAINS = 14;
    private static final int MOST_GUESTS = 20;
    private static final int MOST_SIZE = 99;
    private static final int MOST_EDGES = 9;
    private static final int MOST_LINES = 12;
    private static final int MOST_DAYS = 60;
    private static final int MOST_WAIT = 30;
    private static final int MOST_HELD = 20;
    private static final int LAST_DAY = 9999;
    private static final int LAST_TOLD_DAY = 999;
    private static final int FORGING_COSTS = 20;
    private static final int A_FINE = 50;

    // Columns of the rows that are kept.
    private static final int WHOLE = 0;
    private static final int KEEPS = 1;
    private static final int KIND = 0;
    private static final int SIZE = 1;
    private static final int BORN = 2;
    private static final int EDGES = 3;
    private static final int FORGED = 4;
    private static final int FEAST_DAY = 0;
    private static final int FEAST_KIND = 1;
    private static final int FEAST_GUESTS = 2;
    private static final int WANT_BY = 2;
    private static final int WANT_PAYS = 3;
    private static final int WANT_MET = 4;
    private static final int DISH_WORTH = 0;
    private static final int DISH_NEEDS = 1;

    // What a line of THE BOOK tells of.
    private static final int IN_BOOK_FEAST = 0;
    private static final int IN_BOOK_FORGED = 1;
    private static final int IN_BOOK_CUT = 2;
    private static final int IN_BOOK_JOINED = 3;
    private static final int IN_BOOK_SOLD = 4;
    private static final int IN_BOOK_MET = 5;
    private static final int IN_BOOK_SPOILT = 6;
    private static final int IN_BOOK_FOUND_OUT = 7;
    private static final int IN_BOOK_EATEN = 8;

    // FAULTS of a text.
    private static final int CANNOT_STAND = 1;
    private static final int CANNOT_BE = 2;
    private static final int TOO_MANY = 3;

    private static final int TEXT_KINDS = 0;
    private static final int TEXT_LAW = 1;
    private static final int TEXT_FEASTS = 2;
    private static final int TEXT_WANTS = 3;
    private static final int TEXT_RECIPES = 4;
    private static final int TAPE_BYTES = 400;

    // Tokens: a sign is its own byte, so all others begin above the bytes.
    private static final int A_NUMBER = 256;
    private static final int NO_TOKEN = 257;
    private static final int TEXT_END = 258;
    private static final int A_FACT = 259;
    private static final int FIRST_WORD = 300;
    private static final String WORDS = "kind whole guests size age edges day left price spoil edge when or and not keeps on feast for want by pays dish ";
    private static final int WORD_KIND = 300;
    private static final int WORD_DAY = 306;
    private static final int WORD_LEFT = 307;
    private static final int WORD_PRICE = 308;
    private static final int WORD_SPOIL = 309;
    private static final int WORD_EDGE = 310;
    private static final int WORD_WHEN = 311;
    private static final int WORD_OR = 312;
    private static final int WORD_AND = 313;
    private static final int WORD_NOT = 314;
    private static final int WORD_KEEPS = 315;
    private static final int WORD_ON = 316;
    private static final int WORD_FEAST = 317;
    private static final int WORD_FOR = 318;
    private static final int WORD_WANT = 319;
    private static final int WORD_BY = 320;
    private static final int WORD_PAYS = 321;
    private static final int WORD_DISH = 322;

    // What THE LAW may ask of, in the order of its words from kind to day.
    private static final int FACT_KIND = 0;
    private static final int FACT_WHOLE = 1;
    private static final int FACT_GUESTS = 2;
    private static final int FACT_SIZE = 3;
    private static final int FACT_AGE = 4;
    private static final int FACT_EDGES = 5;
    private static final int FACT_DAY = 6;
    private static final int FACTS = 7;

    private final Market market;
    private final Market imageMarket;
    // A spare one: for days in thought, and for texts until they are read to the end.
    private final Market thought;
    private final Lists lists;
    private final Lists imageLists;
    private final Past past;
    private final Tokens tokens;
    private final LineReader lineReader;
    private final LawReader lawReader;
    private final Bench bench;
    private boolean imageTaken;

    public CrustMarket() {
        market = new Market();
        imageMarket = new Market();
        thought = new Market();
        lists = new Lists();
        imageLists = new Lists();
        past = new Past();
        tokens = new Tokens();
        lineReader = new LineReader(tokens);
        lawReader = new LawReader(tokens);
        bench = new Bench();
        imageTaken = false;
    }

    public int state(int v) {
        int before = market.state;
        market.state = v;
        past.forget();
        return before;
    }

    public boolean set(int what, int v) {
        if (what == 0 && within(v, -9999, 9999)) {
            market.coin = v;
        } else if (what == 1 && within(v, 0, 1000)) {
            market.inspect = v;
        } else if (what == 2 && within(v, 0, 1000)) {
            market.dogs = v;
        } else {
            return false;
        }
        past.forget();
        return true;
    }

    public int feast(int kind, int guests) {
        if (!market.feastCanBe(kind, guests)) {
            return NONE;
        }
        past.keep(market);
        return market.holdFeast(kind, guests);
    }

    public int forge(int kind, int size) {
        if (!market.forgingCanBe(kind, size)) {
            return NONE;
        }
        past.keep(market);
        return market.forgeOne(kind, size);
    }

    public int cut(int place, int size) {
        if (!market.cutCanBe(place, size)) {
            return NONE;
        }
        past.keep(market);
        return market.cutOne(place, size);
    }

    public int join(int a, int b) {
        if (!market.joiningCanBe(a, b)) {
            return NONE;
        }
        past.keep(market);
        return market.joinTwo(a, b);
    }

    public int sell(int place) {
        if (!market.remains.has(place)) {
            return NONE;
        }
        past.keep(market);
        return market.sellOne(place);
    }

    public int days(int n) {
        if (!within(n, 1, MOST_DAYS) || market.day > LAST_DAY - n) {
            return NONE;
        }
        int met = 0;
        for (int i = 0; i < n; i++) {
            past.keep(market);
            met += market.beginDay();
            market.endDay(false);
        }
        return met;
    }

    public int feed(int a, int b, int c, int d, int e) {
        if (!tokens.hasRoomFor(20)) {
            return NONE;
        }
        tokens.addNumber(a);
        tokens.addNumber(b);
        tokens.addNumber(c);
        tokens.addNumber(d);
        tokens.addNumber(e);
        return tokens.length;
    }

    public boolean end(int n) {
        if (n < 0 || n > tokens.length) {
            return false;
        }
        tokens.length = n;
        return true;
    }

    public int text(int k) {
        tokens.split();
        if (k == TEXT_LAW) {
            return lawReader.tell(market.law);
        }
        // Read into the spare market, so that the text stays as it was if there is a FAULT.
        if (!within(k, TEXT_KINDS, TEXT_RECIPES) || !lineReader.read(k, thought.linesOf(k), market.kinds.count)) {
            return NONE;
        }
        return tellLines(k, thought.linesOf(k));
    }

    public int fault(int what) {
        if (what == 0) {
            return tokens.faultFound;
        }
        return what == 1 ? tokens.faultPlace : NONE;
    }

    public int remain(int place, int what) {
        if (!market.remains.has(place)) {
            return NONE;
        }
        if (what == 5) {
            return market.priceOf(place, 0);
        }
        return what == 6 ? market.spoilOf(place) : market.remains.at(place, what);
    }

    public int kind(int k, int what) {
        if (!market.kinds.has(k)) {
            return NONE;
        }
        if (what == 2) {
            return market.remainsOfKind(k);
        }
        return what == 3 ? market.sizesOfKind(k) : market.kinds.at(k, what);
    }

    public int left(int kind, int guests, boolean edge) {
        if (!market.feastCanBe(kind, guests)) {
            return NONE;
        }
        return edge ? market.edgeOfFeast(kind, guests) : market.leftByFeast(kind, guests);
    }

    public int want(int i, int what) {
        return market.wants.at(i, what);
    }

    public int book(int i, int what) {
        return market.book.at(i, what);
    }

    public int goes(int n, int what) {
        if (!within(n, 1, MOST_DAYS) || !within(what, 0, 3)) {
            return NO_GOING;
        }
        thought.copyFrom(market);
        int missed = NONE;
        for (int i = 0; i < n; i++) {
            thought.beginDay();
            if (missed == NONE) {
                missed = thought.firstMissed();
            }
            thought.endDay(true);
        }
        switch (what) {
            case 0:
                return thought.coin;
            case 1:
                return Integer.bitCount(thought.metSet());
            case 2:
                return thought.remains.count;
            default:
                return missed;
        }
    }

    public int joins(int kind, int size, int what) {
        if (!market.kinds.has(kind) || !within(size, 1, MOST_SIZE) || !within(what, 0, 1)) {
            return NONE;
        }
        int set = market.finder.fewest(market.remains, kind, size);
        if (set == 0) {
            return NONE;
        }
        return what == 0 ? Integer.bitCount(set) : set;
    }

    public int most(int kind, int size, int what) {
        if (!market.kinds.has(kind) || !within(what, 0, 2)) {
            return NONE;
        }
        int guests = market.guestsLeavingMost(kind);
        if (what == 0) {
            return guests;
        }
        int left = market.leftByFeast(kind, guests);
        return what == 1 ? left : feastsHeld(left, size);
    }

    public int piece(int length, int worth) {
        if (length == NONE) {
            return lists.pieces.empty();
        }
        if (!within(length, 1, 30) || !within(worth, 1, 99)) {
            return NONE;
        }
        return lists.pieces.addTold(length, worth, 0, 0);
    }

    public int cuts(int b, int what) {
        int piece = what - 10;
        if (!within(b, 0, Lists.LONGEST_BOLT) || (what != 0 && (what < 10 || !lists.pieces.has(piece)))) {
            return NONE;
        }
        lists.weighBolt(b);
        return what == 0 ? lists.boltWorth(b) : lists.piecesInBolt(b, piece);
    }

    public int stalls(int c) {
        return within(c, 1, 99) ? bench.fewestStalls(market.remains, c) : NONE;
    }

    public int test(int t, int f) {
        if (t == NONE) {
            return lists.tests.empty();
        }
        if (!within(t, 1, 999) || !within(f, 1, 999)) {
            return NONE;
        }
        return lists.tests.addTold(t, f, 0, 0);
    }

    public int forged(int p, int shown, int not) {
        int all = (1 << lists.tests.count) - 1;
        if (!within(p, 0, 1000) || !within(shown, 0, all) || !within(not, 0, all) || (shown & not) != 0) {
            return NONE;
        }
        return lists.oddsForged(p, shown, not);
    }

    public int lookAt(int p) {
        return within(p, 0, 1000) ? lists.testToLookAt(p) : NONE;
    }

    public int crumbs(int size, int what) {
        if (!within(size, 0, MOST_SIZE) || !within(what, 0, 1)) {
            return NONE;
        }
        int set = market.feastsLeaving(size);
        return what == 0 ? set : market.kindParting(set);
    }

    public int cooks(int what) {
        if (!within(what, 0, 1)) {
            return NONE;
        }
        bench.cook(market);
        return what == 0 ? bench.mostWorth : bench.bestDishes;
    }

    public int waits(int place, int what) {
        if (!market.remains.has(place) || market.isTooOld(place, 0) || !within(what, 0, 1)) {
            return NONE;
        }
        int days = market.bestWait(place);
        return what == 0 ? days : market.priceOf(place, days);
    }

    public int limit(int v) {
        if (v == NONE) {
            return lists.limits.empty();
        }
        return within(v, 1, 999) ? lists.limits.addTold(v, 0, 0, 0) : NONE;
    }

    public int dusk(int a, int d, int what) {
        if (!within(a, 1, 999) || !within(d, 1, 99) || !within(what, 0, 1)) {
            return NONE;
        }
        int price = lists.priceTaken(a, d);
        return what == 0 ? lists.firstLimitAtLeast(price) : price;
    }

    public int trade(int a, int b, int n, int m) {
        if (a == NONE) {
            return lists.trades.empty();
        }
        boolean kindsCanBe = isTradeKind(a) && isTradeKind(b) && a != b;
        if (!kindsCanBe || !within(n, 1, 9) || !within(m, 1, 9)) {
            return NONE;
        }
        return lists.trades.addTold(a, b, n, m);
    }

    public int ring(int a, int b) {
        return isTradeKind(a) && isTradeKind(b) ? lists.fewestTradesTo(a, b) : NONE;
    }

    public int back(int a) {
        return isTradeKind(a) ? lists.fewestTradesBack(a) : NONE;
    }

    public boolean undo() {
        return past.giveBack(market);
    }

    public boolean image(boolean taken) {
        if (taken) {
            imageMarket.copyFrom(market);
            imageLists.copyFrom(lists);
            imageTaken = true;
        } else if (imageTaken) {
            market.copyFrom(imageMarket);
            lists.copyFrom(imageLists);
            past.forget();
        }
        return imageTaken;
    }

    public int look(int what) {
        switch (what) {
            case 0:
                return market.kinds.count;
            case 1:
                return market.day;
            case 2:
                return market.remains.count;
            case 3:
                return market.coin;
            case 4:
                return market.fines;
            case 5:
                return market.eaten;
            case 6:
                return market.inspect;
            case 7:
                return market.dogs;
            case 8:
                return market.book.count;
            case 9:
                return market.state;
            default:
                return lookAtTold(what);
        }
    }

    private int lookAtTold(int what) {
        switch (what) {
            case 10:
                return market.law.lines;
            case 11:
                return market.feasts.count;
            case 12:
                return market.wants.count;
            case 13:
                return market.dishes.count;
            case 14:
                return past.kept;
            case 15:
                return lists.pieces.count;
            case 16:
                return lists.tests.count;
            case 17:
                return lists.limits.count;
            case 18:
                return lists.trades.count;
            default:
                return NO_LOOK;
        }
    }

    private int tellLines(int k, Rows lines) {
        Rows told = market.linesOf(k);
        told.copyFrom(lines);
        if (k == TEXT_KINDS) {
            market.remains.empty();
            market.feasts.empty();
            market.wants.empty();
            market.dishes.empty();
        }
        // RECIPES, as THE LAW, leave what can be undone: no step that goes back bears them.
        if (k != TEXT_RECIPES) {
            past.forget();
        }
        return told.count;
    }

    private static boolean within(int v, int least, int greatest) {
        return v >= least && v <= greatest;
    }

    private static int held(int v, int least, int greatest) {
        return Math.max(least, Math.min(greatest, v));
    }

    // TRADES are of the numbers of KINDS, told or not.
    private static boolean isTradeKind(int kind) {
        return within(kind, 0, MOST_KINDS - 1);
    }

    private static int feastsHeld(int left, int size) {
        if (!within(size, 1, 999)) {
            return NONE;
        }
        if (left >= size) {
            return 1;
        }
        for (int feasts = 2; feasts <= MOST_HELD; feasts++) {
            if (feasts * left * 9 / 10 >= size) {
                return feasts;
            }
        }
        return NONE;
    }

    /** Rows of ints, all made at once: a call that adds one makes nothing new. */
    private static final class Rows {
        private final int most;
        private final int width;
        private final int[] cells;
        private int count;

        Rows(int most, int width) {
            this.most = most;
            this.width = width;
            this.cells = new int[most * width];
            this.count = 0;
        }

        boolean has(int row) {
            return row >= 0 && row < count;
        }

        boolean isFull() {
            return count >= most;
        }

        private int cellOf(int row, int column) {
            if (row < 0 || row >= count || column < 0 || column >= width) {
                return NONE;
            }
            int cell = row * width + column;
            return cell < cells.length ? cell : NONE;
        }

        int at(int row, int column) {
            int cell = cellOf(row, column);
            return cell >= 0 ? cells[cell] : NONE;
        }

        void put(int row, int column, int value) {
            int cell = cellOf(row, column);
            if (cell >= 0) {
                cells[cell] = value;
            }
        }

        int addEmpty() {
            if (isFull()) {
                return NONE;
            }
            count++;
            for (int column = 0; column < width; column++) {
                put(count - 1, column, 0);
            }
            return count - 1;
        }

        // Columns that the rows have not are left out by put.
        int add(int a, int b, int c, int d) {
            int row = addEmpty();
            put(row, 0, a);
            put(row, 1, b);
            put(row, 2, c);
            put(row, 3, d);
            return row;
        }

        int addTold(int a, int b, int c, int d) {
            return add(a, b, c, d) == NONE ? NONE : count;
        }

        int empty() {
            count = 0;
            return count;
        }

        void keepFirst(int rows) {
            if (rows >= 0 && rows < count) {
                count = rows;
            }
        }

        void drop(int row) {
            if (!has(row)) {
                return;
            }
            for (int next = row + 1; next < count; next++) {
                for (int column = 0; column < width; column++) {
                    put(next - 1, column, at(next, column));
                }
            }
            count--;
        }

        void copyFrom(Rows other) {
            int used = other.count * other.width;
            if (other.width != width || used > cells.length || used > other.cells.length) {
                return;
            }
            System.arraycopy(other.cells, 0, cells, 0, used);
            count = other.count;
        }
    }

    /** THE LAW as steps for a stack: each line's E, then its B behind it. */
    private static final class Law {
        private static final int MOST = 16;
        // Eight open brackets leave two values each; a comparison needs four more.
        private static final int DEPTH = 32;
        private final int[] words = new int[MOST];
        private final int[] starts = new int[MOST];
        private final int[] whens = new int[MOST];
        private final int[] stops = new int[MOST];
        private final int[] steps = new int[TAPE_BYTES];
        private final int[] values = new int[TAPE_BYTES];
        private final int[] stack = new int[DEPTH];
        private int lines;
        private int length;

        void empty() {
            lines = 0;
            length = 0;
        }

        boolean isFull() {
            return lines >= MOST;
        }

        void beginLine(int word) {
            if (isFull()) {
                return;
            }
            words[lines] = word;
            starts[lines] = length;
        }

        void beginWhen() {
            if (!isFull()) {
                whens[lines] = length;
            }
        }

        void closeLine() {
            if (!isFull()) {
                stops[lines] = length;
                lines++;
            }
        }

        void addStep(int step, int value) {
            if (length < steps.length && length < values.length) {
                steps[length] = step;
                values[length] = value;
                length++;
            }
        }

        void copyFrom(Law other) {
            System.arraycopy(other.words, 0, words, 0, MOST);
            System.arraycopy(other.starts, 0, starts, 0, MOST);
            System.arraycopy(other.whens, 0, whens, 0, MOST);
            System.arraycopy(other.stops, 0, stops, 0, MOST);
            System.arraycopy(other.steps, 0, steps, 0, TAPE_BYTES);
            System.arraycopy(other.values, 0, values, 0, TAPE_BYTES);
            lines = other.lines;
            length = other.length;
        }

        int tells(int word, int[] facts, int otherwise) {
            for (int line = 0; line < lines && line < MOST; line++) {
                boolean always = whens[line] == stops[line];
                if (words[line] == word && (always || worked(whens[line], stops[line], facts) != 0)) {
                    return worked(starts[line], whens[line], facts);
                }
            }
            return otherwise;
        }

        private int worked(int from, int to, int[] facts) {
            int top = 0;
            for (int i = Math.max(from, 0); i < to && i < TAPE_BYTES && top < DEPTH; i++) {
                int step = steps[i];
                int value = values[i];
                if (step == A_NUMBER) {
                    stack[top] = value;
                    top++;
                } else if (step == A_FACT) {
                    stack[top] = value >= 0 && value < facts.length ? facts[value] : 0;
                    top++;
                } else if (step == WORD_NOT && top >= 1) {
                    stack[top - 1] = 1 - stack[top - 1];
                } else if (top >= 2) {
                    top--;
                    stack[top - 1] = ofTwo(step, stack[top - 1], stack[top]);
                }
            }
            return top > 0 ? stack[top - 1] : 0;
        }

        private static int ofTwo(int step, int a, int b) {
            switch (step) {
                case '+':
                    return a + b;
                case '-':
                    return a - b;
                case '*':
                    return a * b;
                case '/':
                    return b == 0 ? 0 : a / b;
                case '<':
                    return a < b ? 1 : 0;
                case '=':
                    return a == b ? 1 : 0;
                case '>':
                    return a > b ? 1 : 0;
                case WORD_AND:
                    return a & b;
                default:
                    return a | b;
            }
        }
    }

    /** The TAPE, its tokens once it is split, and the FAULT that their readers find. */
    private static final class Tokens {
        private static final int MOST_DIGITS = 4;
        private final int[] tape = new int[TAPE_BYTES];
        private final int[] types = new int[TAPE_BYTES + 1];
        private final int[] values = new int[TAPE_BYTES + 1];
        private final int[] places = new int[TAPE_BYTES + 1];
        private int length;
        private int count;
        private int now;
        private int faultFound;
        private int faultPlace = NONE;

        boolean hasRoomFor(int bytes) {
            return length + bytes <= TAPE_BYTES;
        }

        void addNumber(int number) {
            for (int shift = 24; shift >= 0 && length >= 0 && length < TAPE_BYTES; shift -= 8) {
                tape[length] = (number >>> shift) & 255;
                length++;
            }
        }

        /** Makes tokens of the TAPE, which is empty then. */
        void split() {
            count = 0;
            now = 0;
            faultFound = 0;
            faultPlace = NONE;
            int place = 0;
            for (int turn = 0; turn < TAPE_BYTES && place < length; turn++) {
                place = isBlank(byteAt(place)) ? place + 1 : splitOne(place);
            }
            addToken(TEXT_END, 0, length);
            length = 0;
        }

        private int splitOne(int start) {
            int first = byteAt(start);
            if (isLetter(first)) {
                int stop = behindLetters(start);
                addToken(wordBetween(start, stop), 0, start);
                return stop;
            }
            if (isDigit(first)) {
                int stop = behindDigits(start);
                int type = stop - start <= MOST_DIGITS ? A_NUMBER : NO_TOKEN;
                addToken(type, numberBetween(start, stop), start);
                return stop;
            }
            addToken(first, 0, start);
            return start + 1;
        }

        private int byteAt(int place) {
            return place >= 0 && place < length && place < TAPE_BYTES ? tape[place] : NONE;
        }

        private static boolean isBlank(int sign) {
            return sign == 32 || sign == 10;
        }

        private static boolean isLetter(int sign) {
            return within(sign, 'a', 'z') || within(sign, 'A', 'Z');
        }

        private static boolean isDigit(int sign) {
            return within(sign, '0', '9');
        }

        private int behindLetters(int start) {
            int stop = start;
            while (stop < length && isLetter(byteAt(stop))) {
                stop++;
            }
            return stop;
        }

        private int behindDigits(int start) {
            int stop = start;
            while (stop < length && isDigit(byteAt(stop))) {
                stop++;
            }
            return stop;
        }

        private int numberBetween(int start, int stop) {
            int number = 0;
            for (int place = start; place < stop; place++) {
                number = number * 10 + byteAt(place) - '0';
            }
            return number;
        }

        private int wordBetween(int start, int stop) {
            int word = FIRST_WORD;
            int from = 0;
            for (int i = 0; i < WORDS.length(); i++) {
                if (WORDS.charAt(i) == ' ') {
                    if (i - from == stop - start && isWordAt(start, from, i)) {
                        return word;
                    }
                    word++;
                    from = i + 1;
                }
            }
            return NO_TOKEN;
        }

        private boolean isWordAt(int start, int from, int to) {
            for (int i = from; i < to && i < WORDS.length(); i++) {
                if (WORDS.charAt(i) != byteAt(start + i - from)) {
                    return false;
                }
            }
            return true;
        }

        private void addToken(int type, int value, int place) {
            if (count >= 0 && count <= TAPE_BYTES) {
                types[count] = type;
                values[count] = value;
                places[count] = place;
                count++;
            }
        }

        int type() {
            return now >= 0 && now < count && now <= TAPE_BYTES ? types[now] : TEXT_END;
        }

        int value() {
            return now >= 0 && now < count && now <= TAPE_BYTES ? values[now] : 0;
        }

        boolean atEnd() {
            return type() == TEXT_END;
        }

        void take() {
            now++;
        }

        /** Notes the FAULT at the token that stands next; false, so that a reader may hand it on. */
        boolean fails(int which) {
            faultFound = which;
            faultPlace = now >= 0 && now < count && now <= TAPE_BYTES ? places[now] : NONE;
            return false;
        }

        boolean takes(int type) {
            if (type() != type) {
                return fails(CANNOT_STAND);
            }
            take();
            return true;
        }
    }

    /** Reads the texts that are lists: KINDS, FEASTS, WANTS, RECIPES. */
    private static final class LineReader {
        private static final int MOST_PARTS = 4;
        private final Tokens tokens;

        LineReader(Tokens tokens) {
            this.tokens = tokens;
        }

        boolean read(int k, Rows lines, int kindsTold) {
            lines.empty();
            for (int line = 0; line <= MOST_LINES && !tokens.atEnd(); line++) {
                if (!readLine(k, lines, kindsTold)) {
                    return false;
                }
            }
            return true;
        }

        private boolean readLine(int k, Rows lines, int kindsTold) {
            switch (k) {
                case TEXT_KINDS:
                    return readKind(lines);
                case TEXT_FEASTS:
                    return readFeast(lines, kindsTold);
                case TEXT_WANTS:
                    return readWant(lines, kindsTold);
                default:
                    return readDish(lines, kindsTold);
            }
        }

        private boolean readKind(Rows kinds) {
            return begins(WORD_KIND, kinds)
                && takesNumber(kinds, WHOLE, 1, MOST_SIZE)
                && tokens.takes(WORD_KEEPS)
                && takesNumber(kinds, KEEPS, 1, 30)
                && tokens.takes(';');
        }

        private boolean readFeast(Rows feasts, int kindsTold) {
            return begins(WORD_ON, feasts)
                && takesNumber(feasts, FEAST_DAY, 0, LAST_TOLD_DAY)
                && tokens.takes(WORD_FEAST)
                && takesNumber(feasts, FEAST_KIND, 0, kindsTold - 1)
                && tokens.takes(WORD_FOR)
                && takesNumber(feasts, FEAST_GUESTS, 1, MOST_GUESTS)
                && tokens.takes(';');
        }

        private boolean readWant(Rows wants, int kindsTold) {
            return begins(WORD_WANT, wants)
                && takesNumber(wants, KIND, 0, kindsTold - 1)
                && takesNumber(wants, SIZE, 1, MOST_SIZE)
                && tokens.takes(WORD_BY)
                && takesNumber(wants, WANT_BY, 0, LAST_TOLD_DAY)
                && tokens.takes(WORD_PAYS)
                && takesNumber(wants, WANT_PAYS, 0, 999)
                && tokens.takes(';');
        }

        private boolean readDish(Rows dishes, int kindsTold) {
            return begins(WORD_DISH, dishes)
                && takesNumber(dishes, DISH_WORTH, 1, 99)
                && readParts(dishes, kindsTold)
                && tokens.takes(';');
        }

        private boolean readParts(Rows dishes, int kindsTold) {
            int dish = dishes.count - 1;
            for (int part = 0; part <= MOST_PARTS && tokens.type() == A_NUMBER; part++) {
                int kind = tokens.value();
                if (kind >= kindsTold || dishes.at(dish, DISH_NEEDS + kind) > 0) {
                    return tokens.fails(CANNOT_BE);
                }
                if (part == MOST_PARTS) {
                    return tokens.fails(TOO_MANY);
                }
                tokens.take();
                if (!takesNumber(dishes, DISH_NEEDS + kind, 1, MOST_SIZE)) {
                    return false;
                }
            }
            return true;
        }

        private boolean begins(int word, Rows lines) {
            if (tokens.type() != word) {
                return tokens.fails(CANNOT_STAND);
            }
            if (lines.addEmpty() == NONE) {
                return tokens.fails(TOO_MANY);
            }
            tokens.take();
            return true;
        }

        private boolean takesNumber(Rows lines, int column, int least, int greatest) {
            if (tokens.type() != A_NUMBER) {
                return tokens.fails(CANNOT_STAND);
            }
            if (!within(tokens.value(), least, greatest)) {
                return tokens.fails(CANNOT_BE);
            }
            lines.put(lines.count - 1, column, tokens.value());
            tokens.take();
            return true;
        }
    }

    /** Reads THE LAW. */
    private static final class LawReader {
        private static final int MOST_OPEN = 8;
        private final Tokens tokens;
        private final Law law = new Law();

        LawReader(Tokens tokens) {
            this.tokens = tokens;
        }

        /** Reads the tokens; without a FAULT the law that is told becomes theirs. */
        int tell(Law told) {
            law.empty();
            for (int line = 0; line <= Law.MOST && !tokens.atEnd(); line++) {
                if (!readLine()) {
                    return NONE;
                }
            }
            told.copyFrom(law);
            return told.lines;
        }

        private boolean readLine() {
            int word = tokens.type();
            if (!within(word, WORD_LEFT, WORD_EDGE)) {
                return tokens.fails(CANNOT_STAND);
            }
            if (law.isFull()) {
                return tokens.fails(TOO_MANY);
            }
            tokens.take();
            law.beginLine(word);
            if (!readSum()) {
                return false;
            }
            law.beginWhen();
            if (tokens.type() == WORD_WHEN) {
                tokens.take();
                if (!readEither(0)) {
                    return false;
                }
            }
            law.closeLine();
            return tokens.takes(';');
        }

        // B: an "or" waits until the conditions that "and" joins behind it are whole.
        private boolean readEither(int open) {
            boolean waiting = false;
            for (int more = 0; more < TAPE_BYTES; more++) {
                if (!readCondition(open)) {
                    return false;
                }
                for (int and = 0; and < TAPE_BYTES && tokens.type() == WORD_AND; and++) {
                    tokens.take();
                    if (!readCondition(open)) {
                        return false;
                    }
                    law.addStep(WORD_AND, 0);
                }
                if (waiting) {
                    law.addStep(WORD_OR, 0);
                }
                if (tokens.type() != WORD_OR) {
                    return true;
                }
                tokens.take();
                waiting = true;
            }
            return true;
        }

        private boolean readCondition(int open) {
            int type = tokens.type();
            if ((type == WORD_NOT || type == '(') && open >= MOST_OPEN) {
                return tokens.fails(TOO_MANY);
            }
            if (type == '(') {
                tokens.take();
                return readEither(open + 1) && tokens.takes(')');
            }
            if (type == WORD_NOT) {
                tokens.take();
                boolean read = readCondition(open + 1);
                law.addStep(WORD_NOT, 0);
                return read;
            }
            if (!readSum()) {
                return false;
            }
            int sign = tokens.type();
            if (sign != '<' && sign != '=' && sign != '>') {
                return tokens.fails(CANNOT_STAND);
            }
            tokens.take();
            boolean read = readSum();
            law.addStep(sign, 0);
            return read;
        }

        // E: a "+" or "-" waits until the product behind it is whole.
        private boolean readSum() {
            if (!readUnit(false)) {
                return false;
            }
            int waiting = NONE;
            for (int more = 0; more < TAPE_BYTES && isReckoning(tokens.type()); more++) {
                int sign = tokens.type();
                boolean ofProduct = sign == '*' || sign == '/';
                if (!ofProduct) {
                    addWaiting(waiting);
                    waiting = sign;
                }
                tokens.take();
                if (!readUnit(sign == '/')) {
                    return false;
                }
                if (ofProduct) {
                    law.addStep(sign, 0);
                }
            }
            addWaiting(waiting);
            return true;
        }

        private static boolean isReckoning(int type) {
            return type == '+' || type == '-' || type == '*' || type == '/';
        }

        private void addWaiting(int sign) {
            if (sign != NONE) {
                law.addStep(sign, 0);
            }
        }

        private boolean readUnit(boolean asDivisor) {
            int type = tokens.type();
            int value = tokens.value();
            if (type == A_NUMBER) {
                if (asDivisor && value == 0) {
                    return tokens.fails(CANNOT_BE);
                }
                law.addStep(A_NUMBER, value);
            } else if (!asDivisor && within(type, WORD_KIND, WORD_DAY)) {
                law.addStep(A_FACT, type - WORD_KIND);
            } else {
                return tokens.fails(CANNOT_STAND);
            }
            tokens.take();
            return true;
        }
    }

    /** All that days change, with the texts by which they do. */
    private static final class Market {
        private final Rows kinds = new Rows(MOST_KINDS, 2);
        private final Rows feasts = new Rows(MOST_LINES, 3);
        private final Rows wants = new Rows(MOST_LINES, 5);
        private final Rows dishes = new Rows(MOST_LINES, DISH_NEEDS + MOST_KINDS);
        private final Rows remains = new Rows(MOST_REMAINS, 5);
        private final Rows book = new Rows(150, 4);
        private final Law law = new Law();
        private final Finder finder = new Finder();
        private final int[] facts = new int[FACTS];
        private int state;
        private int day;
        private int coin = 100;
        private int fines;
        private int inspect;
        private int dogs;
        private int eaten;

        void copyFrom(Market other) {
            kinds.copyFrom(other.kinds);
            feasts.copyFrom(other.feasts);
            wants.copyFrom(other.wants);
            dishes.copyFrom(other.dishes);
            remains.copyFrom(other.remains);
            book.copyFrom(other.book);
            law.copyFrom(other.law);
            state = other.state;
            day = other.day;
            coin = other.coin;
            fines = other.fines;
            inspect = other.inspect;
            dogs = other.dogs;
            eaten = other.eaten;
        }

        /** The lines of a text that is a list. */
        Rows linesOf(int k) {
            switch (k) {
                case TEXT_KINDS:
                    return kinds;
                case TEXT_FEASTS:
                    return feasts;
                case TEXT_WANTS:
                    return wants;
                default:
                    return dishes;
            }
        }

        boolean feastCanBe(int kind, int guests) {
            return kinds.has(kind) && within(guests, 1, MOST_GUESTS);
        }

        boolean forgingCanBe(int kind, int size) {
            return kinds.has(kind) && within(size, 1, kinds.at(kind, WHOLE) - 1)
                && coin >= FORGING_COSTS && !remains.isFull();
        }

        boolean cutCanBe(int place, int size) {
            return remains.has(place) && within(size, 1, remains.at(place, SIZE) - 1) && !remains.isFull();
        }

        boolean joiningCanBe(int a, int b) {
            return remains.has(a) && remains.has(b) && a != b
                && remains.at(a, KIND) == remains.at(b, KIND);
        }

        private void askOfFeast(int kind, int guests) {
            facts[FACT_KIND] = kind;
            facts[FACT_WHOLE] = kinds.at(kind, WHOLE);
            facts[FACT_GUESTS] = guests;
            facts[FACT_SIZE] = 0;
            facts[FACT_AGE] = 0;
            facts[FACT_EDGES] = 0;
            facts[FACT_DAY] = day;
        }

        private void askOfRemain(int place, int later) {
            int kind = remains.at(place, KIND);
            facts[FACT_KIND] = kind;
            facts[FACT_WHOLE] = kinds.at(kind, WHOLE);
            facts[FACT_GUESTS] = 0;
            facts[FACT_SIZE] = remains.at(place, SIZE);
            facts[FACT_AGE] = ageOf(place) + later;
            facts[FACT_EDGES] = remains.at(place, EDGES);
            facts[FACT_DAY] = day + later;
        }

        int leftByFeast(int kind, int guests) {
            int whole = kinds.at(kind, WHOLE);
            askOfFeast(kind, guests);
            return held(law.tells(WORD_LEFT, facts, whole - 5 * guests), 0, whole - 1);
        }

        int edgeOfFeast(int kind, int guests) {
            askOfFeast(kind, guests);
            return held(law.tells(WORD_EDGE, facts, 3), 0, MOST_EDGES);
        }

        int priceOf(int place, int later) {
            askOfRemain(place, later);
            return held(law.tells(WORD_PRICE, facts, remains.at(place, SIZE)), 0, 999);
        }

        int spoilOf(int place) {
            askOfRemain(place, 0);
            return held(law.tells(WORD_SPOIL, facts, 0), 0, 1000);
        }

        private int ageOf(int place) {
            return day - remains.at(place, BORN);
        }

        boolean isTooOld(int place, int later) {
            return ageOf(place) + later >= kinds.at(remains.at(place, KIND), KEEPS);
        }

        int remainsOfKind(int kind) {
            int number = 0;
            for (int place = 0; place < remains.count; place++) {
                if (remains.at(place, KIND) == kind) {
                    number++;
                }
            }
            return number;
        }

        int sizesOfKind(int kind) {
            int sizes = 0;
            for (int place = 0; place < remains.count; place++) {
                if (remains.at(place, KIND) == kind) {
                    sizes += remains.at(place, SIZE);
                }
            }
            return sizes;
        }

        int holdFeast(int kind, int guests) {
            eaten++;
            int size = remains.isFull() ? 0 : leftByFeast(kind, guests);
            if (size > 0) {
                remains.add(kind, size, day, edgeOfFeast(kind, guests));
            }
            book.add(day, IN_BOOK_FEAST, kind, size);
            return size;
        }

        int forgeOne(int kind, int size) {
            int place = remains.add(kind, size, day, MOST_EDGES);
            remains.put(place, FORGED, 1);
            coin -= FORGING_COSTS;
            book.add(day, IN_BOOK_FORGED, kind, size);
            return place;
        }

        int cutOne(int place, int size) {
            int kind = remains.at(place, KIND);
            int edges = Math.min(MOST_EDGES, remains.at(place, EDGES) + 1);
            int rest = remains.at(place, SIZE) - size;
            int added = remains.add(kind, rest, remains.at(place, BORN), edges);
            remains.put(added, FORGED, remains.at(place, FORGED));
            remains.put(place, SIZE, size);
            remains.put(place, EDGES, edges);
            book.add(day, IN_BOOK_CUT, kind, size);
            return added;
        }

        int joinTwo(int a, int b) {
            int both = remains.at(a, SIZE) + remains.at(b, SIZE);
            int size = held(both * 9 / 10, 1, MOST_SIZE);
            remains.put(a, SIZE, size);
            remains.put(a, BORN, Math.min(remains.at(a, BORN), remains.at(b, BORN)));
            remains.put(a, EDGES, Math.max(remains.at(a, EDGES), remains.at(b, EDGES)));
            remains.put(a, FORGED, Math.max(remains.at(a, FORGED), remains.at(b, FORGED)));
            book.add(day, IN_BOOK_JOINED, remains.at(a, KIND), size);
            remains.drop(b);
            return size;
        }

        int sellOne(int place) {
            int price = priceOf(place, 0);
            coin += price;
            book.add(day, IN_BOOK_SOLD, remains.at(place, KIND), price);
            remains.drop(place);
            return price;
        }

        /** (a) and (b) of a DAY: how many WANTS were MET. */
        int beginDay() {
            for (int line = 0; line < feasts.count; line++) {
                if (feasts.at(line, FEAST_DAY) == day) {
                    holdFeast(feasts.at(line, FEAST_KIND), feasts.at(line, FEAST_GUESTS));
                }
            }
            int met = 0;
            for (int line = 0; line < wants.count; line++) {
                boolean open = wants.at(line, WANT_MET) == 0 && day <= wants.at(line, WANT_BY);
                if (open && meets(line)) {
                    met++;
                }
            }
            return met;
        }

        private boolean meets(int line) {
            int set = finder.fewest(remains, wants.at(line, KIND), wants.at(line, SIZE));
            if (set == 0) {
                return false;
            }
            // From the end, so that a place told by the set still stands when its turn comes.
            for (int place = remains.count - 1; place >= 0; place--) {
                if (isIn(set, place)) {
                    remains.drop(place);
                }
            }
            wants.put(line, WANT_MET, 1);
            coin += wants.at(line, WANT_PAYS);
            book.add(day, IN_BOOK_MET, line, Integer.bitCount(set));
            return true;
        }

        int firstMissed() {
            for (int line = 0; line < wants.count; line++) {
                if (wants.at(line, WANT_BY) == day && wants.at(line, WANT_MET) == 0) {
                    return line;
                }
            }
            return NONE;
        }

        /** (c) to (f) of a DAY; in thought nothing is drawn. */
        void endDay(boolean inThought) {
            int place = 0;
            int before = remains.count;
            for (int turn = 0; turn < before; turn++) {
                if (isTooOld(place, 0) || (!inThought && isSpoilt(place))) {
                    lose(place, IN_BOOK_SPOILT);
                } else {
                    place++;
                }
            }
            if (!inThought) {
                inspectorsCome();
                dogsCome();
            }
            day++;
        }

        private boolean isSpoilt(int place) {
            int spoil = spoilOf(place);
            return spoil > 0 && draw(1000) < spoil;
        }

        private void inspectorsCome() {
            if (inspect <= 0 || draw(1000) >= inspect) {
                return;
            }
            for (int place = 0; place < remains.count; place++) {
                if (remains.at(place, FORGED) == 1) {
                    lose(place, IN_BOOK_FOUND_OUT);
                    fines++;
                    coin -= A_FINE;
                    return;
                }
            }
        }

        private void dogsCome() {
            if (dogs > 0 && remains.count > 0 && draw(1000) < dogs) {
                lose(draw(remains.count), IN_BOOK_EATEN);
            }
        }

        private void lose(int place, int why) {
            book.add(day, why, remains.at(place, KIND), remains.at(place, SIZE));
            remains.drop(place);
        }

        private int draw(int m) {
            state = 1664525 * state + 1013904223;
            return m > 0 ? (state >>> 8) % m : 0;
        }

        int metSet() {
            int set = 0;
            for (int line = 0; line < wants.count; line++) {
                if (wants.at(line, WANT_MET) == 1) {
                    set |= 1 << line;
                }
            }
            return set;
        }

        void putMetSet(int set) {
            for (int line = 0; line < wants.count; line++) {
                wants.put(line, WANT_MET, isIn(set, line) ? 1 : 0);
            }
        }

        int guestsLeavingMost(int kind) {
            int best = 1;
            int most = leftByFeast(kind, 1);
            for (int guests = 2; guests <= MOST_GUESTS; guests++) {
                int size = leftByFeast(kind, guests);
                if (size > most) {
                    most = size;
                    best = guests;
                }
            }
            return best;
        }

        int feastsLeaving(int size) {
            int set = 0;
            for (int line = 0; line < feasts.count; line++) {
                if (leftByFeast(feasts.at(line, FEAST_KIND), feasts.at(line, FEAST_GUESTS)) == size) {
                    set |= 1 << line;
                }
            }
            return set;
        }

        int kindParting(int set) {
            int all = Integer.bitCount(set);
            if (all < 2) {
                return NONE;
            }
            int best = NONE;
            int least = all + 1;
            for (int kind = 0; kind < kinds.count; kind++) {
                int ofIt = feastsOfKind(set, kind);
                int greater = Math.max(ofIt, all - ofIt);
                if (greater < least) {
                    least = greater;
                    best = kind;
                }
            }
            return best;
        }

        private int feastsOfKind(int set, int kind) {
            int number = 0;
            for (int line = 0; line < feasts.count; line++) {
                if (isIn(set, line) && feasts.at(line, FEAST_KIND) == kind) {
                    number++;
                }
            }
            return number;
        }

        int bestWait(int place) {
            int best = 0;
            int most = NONE;
            for (int later = 0; later <= MOST_WAIT && !isTooOld(place, later); later++) {
                int price = priceOf(place, later);
                if (price > most) {
                    most = price;
                    best = later;
                }
            }
            return best;
        }
    }

    private static boolean isIn(int set, int place) {
        return (set >> place & 1) == 1;
    }

    /** JOINS: the fewest REMAINS of a KIND that do for a SIZE. */
    private static final class Finder {
        private final int[] places = new int[MOST_REMAINS];
        private final int[] sizes = new int[MOST_REMAINS];
        private final int[] falling = new int[MOST_REMAINS];
        private int count;
        private int target;
        private int bestSum;
        private int bestSet;

        /** The set of places, 0 if none do. */
        int fewest(Rows remains, int kind, int size) {
            gather(remains, kind);
            int alone = bestAlone(size);
            if (alone != NONE) {
                return 1 << alone;
            }
            // Nine tenths of a sum, downwards, reach the SIZE just from here on.
            target = (10 * size + 8) / 9;
            int needed = fewestReaching();
            if (needed == NONE) {
                return 0;
            }
            bestSum = FAR_ABOVE;
            bestSet = 0;
            search(count - 1, needed, 0, 0);
            return bestSet;
        }

        private void gather(Rows remains, int kind) {
            count = 0;
            for (int place = 0; place < remains.count && count < MOST_REMAINS; place++) {
                if (remains.at(place, KIND) == kind) {
                    places[count] = place;
                    sizes[count] = remains.at(place, SIZE);
                    addFalling(sizes[count]);
                    count++;
                }
            }
        }

        private void addFalling(int size) {
            int at = count;
            while (at > 0 && at < MOST_REMAINS && falling[at - 1] < size) {
                falling[at] = falling[at - 1];
                at--;
            }
            if (at < MOST_REMAINS) {
                falling[at] = size;
            }
        }

        private int bestAlone(int size) {
            int best = NONE;
            int least = FAR_ABOVE;
            for (int i = 0; i < count && i < MOST_REMAINS; i++) {
                if (sizes[i] >= size && sizes[i] < least) {
                    least = sizes[i];
                    best = places[i];
                }
            }
            return best;
        }

        private int fewestReaching() {
            int sum = 0;
            for (int i = 0; i < count && i < MOST_REMAINS; i++) {
                sum += falling[i];
                if (sum >= target) {
                    return i + 1;
                }
            }
            return NONE;
        }

        // Leaving out the last place ahead of taking it meets sets from the least on, so the first one of a sum stays.
        private void search(int last, int needed, int sum, int set) {
            if (sum >= bestSum || bestSum <= target || last + 1 < needed) {
                return;
            }
            if (needed <= 0) {
                if (sum >= target) {
                    bestSum = sum;
                    bestSet = set;
                }
                return;
            }
            if (last < 0 || last >= MOST_REMAINS || sum + needed * falling[0] < target) {
                return;
            }
            search(last - 1, needed, sum, set);
            search(last - 1, needed - 1, sum + sizes[last], set | 1 << places[last]);
        }
    }

    /** What can be undone: the latest six steps, each as the market was ahead of it. */
    private static final class Past {
        private static final int MOST = 6;
        private static final int NUMBERS = 7;
        private final Rows[] remains = new Rows[MOST];
        private final int[][] numbers = new int[MOST][NUMBERS];
        private int kept;
        private int next;

        Past() {
            for (int i = 0; i < MOST; i++) {
                remains[i] = new Rows(MOST_REMAINS, 5);
            }
        }

        void forget() {
            kept = 0;
        }

        void keep(Market market) {
            if (next < 0 || next >= MOST) {
                next = 0;
            }
            remains[next].copyFrom(market.remains);
            int[] row = numbers[next];
            row[0] = market.state;
            row[1] = market.day;
            row[2] = market.coin;
            row[3] = market.fines;
            row[4] = market.eaten;
            row[5] = market.metSet();
            // THE BOOK only grows between two steps, so its length is enough.
            row[6] = market.book.count;
            next = (next + 1) % MOST;
            kept = Math.min(MOST, kept + 1);
        }

        boolean giveBack(Market market) {
            if (kept <= 0) {
                return false;
            }
            kept--;
            next = next <= 0 || next >= MOST ? MOST - 1 : next - 1;
            market.remains.copyFrom(remains[next]);
            int[] row = numbers[next];
            market.state = row[0];
            market.day = row[1];
            market.coin = row[2];
            market.fines = row[3];
            market.eaten = row[4];
            market.putMetSet(row[5]);
            market.book.keepFirst(row[6]);
            return true;
        }
    }

    /** PIECES, TESTS, LIMITS and TRADES, and what is thought of them. */
    private static final class Lists {
        private static final int LONGEST_BOLT = 99;
        private static final int MOST = 6;
        private static final int MOST_TRADES = 8;
        private static final int TEST_TRUE = 0;
        private static final int TEST_FORGED = 1;
        private static final int GIVES = 0;
        private static final int GETS = 1;
        private static final int GIVEN = 2;
        private static final int GOT = 3;
        private final Rows pieces = new Rows(MOST, 2);
        private final Rows tests = new Rows(MOST, 2);
        private final Rows limits = new Rows(MOST, 1);
        private final Rows trades = new Rows(MOST_TRADES, 4);
        // Row i: the most worth of each length by the pieces from i on.
        private final int[][] worths = new int[MOST + 1][LONGEST_BOLT + 1];
        private final int[] reached = new int[1 << MOST_TRADES];

        void copyFrom(Lists other) {
            pieces.copyFrom(other.pieces);
            tests.copyFrom(other.tests);
            limits.copyFrom(other.limits);
            trades.copyFrom(other.trades);
        }

        void weighBolt(int bolt) {
            int none = Math.min(pieces.count, MOST);
            for (int length = 0; length <= bolt && length <= LONGEST_BOLT; length++) {
                worths[none][length] = 0;
                for (int piece = none - 1; piece >= 0; piece--) {
                    int without = worths[piece + 1][length];
                    worths[piece][length] = Math.max(without, worthWith(piece, length));
                }
            }
        }

        private int worthWith(int piece, int length) {
            int rest = length - pieces.at(piece, 0);
            if (piece < 0 || piece > MOST || rest < 0 || rest > LONGEST_BOLT) {
                return NONE;
            }
            return pieces.at(piece, 1) + worths[piece][rest];
        }

        int boltWorth(int bolt) {
            return bolt >= 0 && bolt <= LONGEST_BOLT ? worths[0][bolt] : NONE;
        }

        int piecesInBolt(int bolt, int asked) {
            int rest = bolt;
            int number = 0;
            for (int piece = 0; piece <= asked && piece <= MOST; piece++) {
                number = 0;
                while (rest >= 0 && rest <= LONGEST_BOLT && worthWith(piece, rest) == worths[piece][rest]) {
                    rest -= Math.max(1, pieces.at(piece, 0));
                    number++;
                }
            }
            return number;
        }

        int oddsForged(int p, int shown, int not) {
            long q = p * 1000L;
            for (int i = 0; i < tests.count; i++) {
                if (isIn(shown, i)) {
                    q = oddsBehind(q, tests.at(i, TEST_TRUE), tests.at(i, TEST_FORGED));
                } else if (isIn(not, i)) {
                    q = oddsBehind(q, 1000 - tests.at(i, TEST_TRUE), 1000 - tests.at(i, TEST_FORGED));
                }
            }
            return (int) q;
        }

        private static long oddsBehind(long q, int t, int f) {
            long all = q * f + (MILLION - q) * t;
            return all > 0 ? MILLION * (q * f) / all : 0;
        }

        int testToLookAt(int p) {
            int best = NONE;
            int most = NONE;
            for (int i = 0; i < tests.count; i++) {
                int sure = Math.max(oddsForged(p, 1 << i, 0), MILLION - oddsForged(p, 0, 1 << i));
                if (sure > most) {
                    most = sure;
                    best = i;
                }
            }
            return best;
        }

        int priceTaken(int from, int less) {
            for (int price = from; price >= 1; price -= Math.max(1, less)) {
                if (firstLimitAtLeast(price) != NONE) {
                    return price;
                }
            }
            return NONE;
        }

        int firstLimitAtLeast(int price) {
            if (price == NONE) {
                return NONE;
            }
            for (int i = 0; i < limits.count; i++) {
                if (limits.at(i, 0) >= price) {
                    return i;
                }
            }
            return NONE;
        }

        int fewestTradesTo(int from, int to) {
            int kinds = 1 << from;
            for (int steps = 0; steps < MOST_KINDS; steps++) {
                if (isIn(kinds, to)) {
                    return steps;
                }
                kinds |= kindsBehind(kinds);
            }
            return NONE;
        }

        private int kindsBehind(int kinds) {
            int behind = 0;
            for (int i = 0; i < trades.count; i++) {
                if (isIn(kinds, trades.at(i, GIVES))) {
                    behind |= 1 << trades.at(i, GETS);
                }
            }
            return behind;
        }

        // A set of TRADES has one gain, however it is walked: so it is enough to know where each set may lead.
        int fewestTradesBack(int kind) {
            int sets = Math.min(1 << trades.count, reached.length);
            for (int set = 0; set < sets; set++) {
                reached[set] = 0;
            }
            reached[0] = 1 << kind;
            int fewest = NONE;
            for (int set = 0; set < sets; set++) {
                int number = Integer.bitCount(set);
                if (isIn(reached[set], kind) && (fewest == NONE || number < fewest) && gains(set)) {
                    fewest = number;
                }
                walkOn(set, sets);
            }
            return fewest;
        }

        private void walkOn(int set, int sets) {
            for (int i = 0; i < trades.count; i++) {
                int longer = set | 1 << i;
                boolean canGo = longer != set && longer < sets && longer < reached.length
                    && isIn(reached[set], trades.at(i, GIVES));
                if (canGo) {
                    reached[longer] |= 1 << trades.at(i, GETS);
                }
            }
        }

        private boolean gains(int set) {
            int given = 1;
            int got = 1;
            for (int i = 0; i < trades.count; i++) {
                if (isIn(set, i)) {
                    given *= trades.at(i, GIVEN);
                    got *= trades.at(i, GOT);
                }
            }
            return got > given;
        }
    }

    /** STALLS and COOKS. */
    private static final class Bench {
        private static final int MOST = 10;
        private final int[] stalls = new int[1 << MOST];
        private final int[] fills = new int[1 << MOST];
        private final int[] stock = new int[MOST_KINDS];
        private int mostWorth;
        private int bestDishes;

        int fewestStalls(Rows remains, int room) {
            int number = remains.count;
            if (number > MOST) {
                return NONE;
            }
            for (int place = 0; place < number; place++) {
                if (remains.at(place, SIZE) > room) {
                    return NONE;
                }
            }
            int sets = Math.min(1 << number, stalls.length);
            stalls[0] = 0;
            fills[0] = room;
            for (int set = 1; set < sets; set++) {
                stalls[set] = FAR_ABOVE;
                for (int place = 0; place < number; place++) {
                    if (isIn(set, place)) {
                        layLast(set, set ^ 1 << place, remains.at(place, SIZE), room);
                    }
                }
            }
            return stalls[sets - 1];
        }

        // Of two ways to lay a set, fewer stalls and then a less full last one is never worse.
        private void layLast(int set, int others, int size, int room) {
            if (set < 0 || set >= stalls.length || others < 0 || others >= stalls.length) {
                return;
            }
            boolean fits = fills[others] + size <= room;
            int needed = fits ? stalls[others] : stalls[others] + 1;
            int fill = fits ? fills[others] + size : size;
            if (needed < stalls[set] || (needed == stalls[set] && fill < fills[set])) {
                stalls[set] = needed;
                fills[set] = fill;
            }
        }

        void cook(Market market) {
            for (int kind = 0; kind < MOST_KINDS; kind++) {
                stock[kind] = market.sizesOfKind(kind);
            }
            int worths = 0;
            for (int dish = 0; dish < market.dishes.count; dish++) {
                worths += market.dishes.at(dish, DISH_WORTH);
            }
            mostWorth = 0;
            bestDishes = 0;
            cookFrom(market.dishes, market.dishes.count - 1, worths, 0, 0);
        }

        // Cooking the last dish ahead of leaving it out meets sets from the greatest on, so the last one of a worth stays.
        private void cookFrom(Rows dishes, int last, int ahead, int worth, int set) {
            if (worth + ahead < mostWorth) {
                return;
            }
            if (last < 0 || last >= MOST_LINES) {
                mostWorth = worth;
                bestDishes = set;
                return;
            }
            int dish = dishes.at(last, DISH_WORTH);
            if (canCook(dishes, last)) {
                use(dishes, last, 1);
                cookFrom(dishes, last - 1, ahead - dish, worth + dish, set | 1 << last);
                use(dishes, last, -1);
            }
            cookFrom(dishes, last - 1, ahead - dish, worth, set);
        }

        private boolean canCook(Rows dishes, int dish) {
            for (int kind = 0; kind < MOST_KINDS; kind++) {
                if (dishes.at(dish, DISH_NEEDS + kind) > stock[kind]) {
                    return false;
                }
            }
            return true;
        }

        private void use(Rows dishes, int dish, int times) {
            for (int kind = 0; kind < MOST_KINDS; kind++) {
                stock[kind] -= times * dishes.at(dish, DISH_NEEDS + kind);
            }
        }
    }
}
