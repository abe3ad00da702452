import java.util.Arrays;

/** One cake on the cards of ninety kitchens: read, copied, stained, baked and held against one another. */
public final class CakeCards {
    public static final int NONE = -1000000;
    public static final long NOT = -9000000000000000000L;

    private static final long BAD = NOT - 1;
    private static final long STATE = NOT - 2;
    private static final long FULL = NOT - 3;
    private static final long FINDINGS = NOT - 10;
    private static final long FAULTS = NOT - 100;

    private static final int FOUND_NULL = 1;
    private static final int FOUND_PLACE = 2;
    private static final int FOUND_KIND = 3;
    private static final int FOUND_SIZE = 4;
    private static final int FOUND_STORE = 5;

    private static final int ROWS = 8;
    private static final int ITEMS = 40;
    private static final int BYTES = 500;
    private static final int LANDS = 4;
    private static final int THINGS = 8;
    private static final int MEASURES = 4;
    private static final int YEAR_FROM = 1800;
    private static final int YEAR_TILL = 2000;
    private static final int MOST_MEASURES = 16;
    private static final int MOST_PACKETS = 8;
    private static final int MOST_GRAINS = 9999;
    private static final int MOST_HEAT = 9;
    private static final int MOST_COUNT = 99;

    private static final int CARDS = 12;
    private static final int HEAT = 8;
    private static final int LONG = 9;
    private static final int BEAT = 10;
    private static final int MARKS = 11;
    /** An ITEM that says STAINED; a MARK that is STAINED holds NONE. */
    private static final int ITEM_STAINED = -1;

    private static final int LAW_LOST = 1;
    private static final int LAW_DOUBLED = 2;
    private static final int LAW_HALVED = 3;
    private static final int LAW_SWAPPED = 4;
    private static final int LAW_HOTTER = 5;
    private static final int LAW_SHORTER = 6;

    private static final int KIND_CARD = 0;
    private static final int KIND_WHOLE = 1;
    private static final int KIND_MARRED = 2;
    private static final int KIND_SUNK = 3;
    private static final int KIND_OWN = 4;
    private static final int KIND_ILL = 5;

    private static final int ENDS = 6;
    private static final int NODES = 11;

    private final Shelf shelf = new Shelf();
    private final Tape tape = new Tape();
    private final Household now = new Household();
    private final Household image0 = new Household();
    private final Household image1 = new Household();
    private final Kitchen draft = new Kitchen();
    private final Page page = new Page();
    private final Subsets subsets = new Subsets();
    private final Forest forest = new Forest();
    private final Asker asker = new Asker();
    private int finding;

    public CakeCards() {
        finding = 0;
    }

    // ---- rows

    public long row(int row, int lane, int n) {
        if (!isRow(row) || lane < 0 || lane > 2 || n > ITEMS) {
            return BAD;
        }
        if (n < 0) {
            return found(FOUND_SIZE);
        }
        shelf.lay(row, lane, n);
        return clean(n);
    }

    public long set(int row, int i, int v) {
        if (!isRow(row)) {
            return BAD;
        }
        if (shelf.isMissing(row)) {
            return found(FOUND_NULL);
        }
        if (!shelf.spans(row, i, 1)) {
            return found(FOUND_PLACE);
        }
        return clean(shelf.put(row, i, v));
    }

    public long copy(int a, int i, int b, int j, int n) {
        if (!isRow(a) || !isRow(b)) {
            return BAD;
        }
        if (shelf.isMissing(a) || shelf.isMissing(b)) {
            return found(FOUND_NULL);
        }
        if (shelf.laneOf(a) != shelf.laneOf(b)) {
            return found(FOUND_STORE);
        }
        if (!shelf.spans(a, i, n) || !shelf.spans(b, j, n)) {
            return found(FOUND_PLACE);
        }
        shelf.carry(a, i, b, j, n);
        return clean(n);
    }

    public long drop(int row) {
        if (!isRow(row)) {
            return BAD;
        }
        if (shelf.isMissing(row)) {
            return found(FOUND_NULL);
        }
        return clean(shelf.remove(row));
    }

    // ---- kitchens, cards

    public long feed(long w, int n) {
        if (n < 1 || n > 8) {
            return BAD;
        }
        if (!tape.hasRoom(n)) {
            return FULL;
        }
        return tape.append(w, n);
    }

    public long kitchen() {
        boolean read = draft.readFrom(tape);
        tape.clear();
        if (!read) {
            return FAULTS - tape.faultPlace();
        }
        now.kitchen.become(draft);
        now.deck.clear();
        return draft.measures() + draft.packets();
    }

    public long card() {
        if (!now.kitchen.isThere()) {
            return STATE;
        }
        if (now.deck.isFull()) {
            return FULL;
        }
        boolean read = page.readFrom(tape, now.kitchen);
        tape.clear();
        if (!read) {
            return FAULTS - tape.faultPlace();
        }
        return now.deck.add(page, NONE);
    }

    public int fault() {
        return tape.latestFault();
    }

    public long told(int land, int year, int row, int i, int mother) {
        if (!isLand(land) || !isYear(year) || !isRow(row) || !now.deck.mayBeMother(mother, year)) {
            return BAD;
        }
        if (!now.kitchen.isThere()) {
            return STATE;
        }
        if (now.deck.isFull()) {
            return FULL;
        }
        if (shelf.isMissing(row)) {
            return found(FOUND_NULL);
        }
        if (!shelf.spans(row, i, MARKS)) {
            return found(FOUND_PLACE);
        }
        page.begin(land, year);
        if (!page.takeItems(shelf, row, i)) {
            return BAD;
        }
        return clean(now.deck.add(page, mother));
    }

    public long copied(int card, int land, int year, int law, int a, int b) {
        if (!now.deck.has(card) || !isLand(land) || !isYear(year) || year < now.deck.yearOf(card)) {
            return BAD;
        }
        if (law < 0 || law > LAW_SHORTER || !isThing(a) || !isThing(b) || (law == LAW_SWAPPED && a == b)) {
            return BAD;
        }
        page.begin(land, year);
        page.takeMarks(now.deck, card);
        if (!page.applyLaw(law, a, b)) {
            return STATE;
        }
        if (now.deck.isFull()) {
            return FULL;
        }
        return now.deck.add(page, card);
    }

    public long mark(int card, int mark) {
        if (!now.deck.has(card) || !isMark(mark)) {
            return BAD;
        }
        return now.deck.markAt(card, mark);
    }

    public long of(int card, int what) {
        if (!now.deck.has(card)) {
            return BAD;
        }
        switch (what) {
            case 0:
                return now.deck.landOf(card);
            case 1:
                return now.deck.yearOf(card);
            case 2:
                return now.deck.motherOf(card);
            case 3:
                return now.deck.stainsOf(card);
            case 4:
                return now.deck.daughtersOf(card);
            default:
                return BAD;
        }
    }

    public long stain(int card, int mark) {
        if (!now.deck.has(card) || !isMark(mark)) {
            return BAD;
        }
        if (now.deck.markAt(card, mark) == NONE) {
            return 0;
        }
        now.deck.putMark(card, mark, NONE);
        return 1;
    }

    public long grains(int measure, int land, int year) {
        if (measure < 0 || measure >= MEASURES || !isLand(land) || !isYear(year)) {
            return BAD;
        }
        if (!now.kitchen.isThere()) {
            return STATE;
        }
        return now.kitchen.grainsOf(measure, land, year);
    }

    // ---- held against one another, baked

    public long unlike(int a, int b) {
        if (!now.deck.has(a) || !now.deck.has(b)) {
            return BAD;
        }
        return now.deck.apart(a, b);
    }

    public long baked(int card, int what) {
        if (!now.deck.has(card) || what < 0 || what > 1) {
            return BAD;
        }
        if (what == 0) {
            return now.riseOf(card);
        }
        return now.sinks(card) ? 1 : 0;
    }

    public long blame(int good, int sunk, int what) {
        if (!now.deck.has(good) || !now.deck.has(sunk) || what < 0 || what > 2) {
            return BAD;
        }
        if (now.sinks(good) || !now.sinks(sunk)) {
            return STATE;
        }
        subsets.findBlame(now, good, sunk);
        if (what == 2) {
            return subsets.ways();
        }
        if (subsets.ways() == 0) {
            return NONE;
        }
        return what == 0 ? subsets.firstSet() : Integer.bitCount(subsets.firstSet());
    }

    // ---- who had it from whom

    public long mothers(int what) {
        if (what < 0 || what > 1) {
            return BAD;
        }
        if (now.deck.size() == 0) {
            return STATE;
        }
        return what == 0 ? now.deck.leastChanges() : now.deck.leastRows();
    }

    public long mother(int card) {
        if (!now.deck.has(card)) {
            return BAD;
        }
        return now.deck.nearestMother(card);
    }

    public long two(int card, int what) {
        if (!now.deck.has(card) || what < 0 || what > 2) {
            return BAD;
        }
        return now.deck.costOfTwo(card, what);
    }

    public long trees(int cards, int what) {
        if (!isGrove(cards) || what < 0 || what > 2) {
            return BAD;
        }
        forest.grow(now.deck, cards);
        if (what == 0) {
            return forest.leastChanges();
        }
        return what == 1 ? forest.leastTrees() : forest.allTrees();
    }

    public long sure(int cards, int i) {
        if (!isGrove(cards) || i < -1) {
            return BAD;
        }
        forest.grow(now.deck, cards);
        return forest.sureJoin(i);
    }

    public long first(int cards, int mark, int i) {
        if (!isGrove(cards) || !isMark(mark) || i < -1) {
            return BAD;
        }
        forest.grow(now.deck, cards);
        return forest.firstValue(mark, i);
    }

    // ---- years, left out, mended, a book

    public long years(int card, int what) {
        if (!now.deck.has(card) || what < 0 || what > 1) {
            return BAD;
        }
        int from = now.latestFrom(card);
        int till = now.earliestTill(card);
        if (from == NONE || from > till) {
            return NONE;
        }
        return what == 0 ? from : till;
    }

    public long left(int card, int thing) {
        if (!now.deck.has(card) || !isThing(thing)) {
            return BAD;
        }
        return now.deck.leftOut(card, thing);
    }

    public long chance(int card, int thing, int l) {
        if (!now.deck.has(card) || !isThing(thing) || l < 2 || l > 9) {
            return BAD;
        }
        int heirs = now.deck.leftOut(card, thing);
        if (heirs < 0) {
            return NONE;
        }
        long lower = 1;
        for (int i = 0; i < heirs; i++) {
            lower = lower * l;
        }
        return lower;
    }

    public long mend(int card, int a, int b, int c) {
        if (!now.deck.has(card) || !now.deck.has(a) || !now.deck.has(b) || !now.deck.has(c)) {
            return BAD;
        }
        if (card == a || card == b || card == c || a == b || a == c || b == c) {
            return BAD;
        }
        return now.deck.mendFrom(card, a, b, c);
    }

    public long book(int d) {
        if (d < 0 || d > MARKS) {
            return BAD;
        }
        if (now.deck.size() == 0) {
            return STATE;
        }
        subsets.findBook(now.deck, d);
        return subsets.firstSet();
    }

    public long image(int k) {
        if (k < 0 || k > 1) {
            return BAD;
        }
        if (!now.kitchen.isThere()) {
            return STATE;
        }
        imageOf(k).become(now);
        return 1;
    }

    public long restore(int k) {
        if (k < 0 || k > 1) {
            return BAD;
        }
        if (!imageOf(k).kitchen.isThere()) {
            return STATE;
        }
        now.become(imageOf(k));
        return 1;
    }

    // ---- asked

    public long kind(int card) {
        if (!now.deck.has(card)) {
            return BAD;
        }
        return now.kindOf(card);
    }

    public long as(int card, int kind) {
        if (!now.deck.has(card) || kind < KIND_CARD || kind > KIND_ILL) {
            return BAD;
        }
        if (!isAlso(now.kindOf(card), kind)) {
            return found(FOUND_KIND);
        }
        return clean(card);
    }

    public long ask(int card, int what) {
        if (!now.deck.has(card) || what < 0 || what > 1) {
            return BAD;
        }
        return asker.answer(now, card, what);
    }

    public int trace(int i) {
        return asker.traceAt(i);
    }

    public long count(int what) {
        switch (what) {
            case 0:
                return shelf.rows();
            case 1:
                return now.kitchen.measures();
            case 2:
                return now.kitchen.packets();
            case 3:
                return now.deck.size();
            case 4:
                return now.deck.allStains();
            case 5:
                return tape.size();
            default:
                return BAD;
        }
    }

    public int status() {
        return finding;
    }

    // ---- what the calls share

    private long found(int number) {
        finding = number;
        return FINDINGS - number;
    }

    private long clean(long answer) {
        finding = 0;
        return answer;
    }

    private Household imageOf(int k) {
        return k == 0 ? image0 : image1;
    }

    /** Whether a set of CARDS is one that TREES are grown of. */
    private boolean isGrove(int cards) {
        if (cards < 0 || (cards >> now.deck.size()) != 0) {
            return false;
        }
        int ends = Integer.bitCount(cards);
        return ends >= 2 && ends <= ENDS;
    }

    private static boolean isRow(int row) {
        return row >= 0 && row < ROWS;
    }

    private static boolean isLand(int land) {
        return land >= 0 && land < LANDS;
    }

    private static boolean isYear(int year) {
        return year >= YEAR_FROM && year <= YEAR_TILL;
    }

    private static boolean isThing(int thing) {
        return thing >= 0 && thing < THINGS;
    }

    private static boolean isMark(int mark) {
        return mark >= 0 && mark < MARKS;
    }

    /** Whether a CARD that is told as one KIND is one of another, too. */
    private static boolean isAlso(int told, int kind) {
        switch (kind) {
            case KIND_CARD:
                return true;
            case KIND_WHOLE:
                return told == KIND_WHOLE || told == KIND_SUNK || told == KIND_OWN;
            case KIND_MARRED:
                return told == KIND_MARRED || told == KIND_ILL;
            default:
                return told == kind;
        }
    }

    /** The ROWS. */
    private static final class Shelf {
        private static final int MISSING = -1;

        private final int[] lanes = new int[ROWS];
        private final int[] sizes = new int[ROWS];
        private final int[] items = new int[ROWS * ITEMS];

        Shelf() {
            Arrays.fill(sizes, MISSING);
        }

        int sizeOf(int row) {
            return isRow(row) ? sizes[row] : MISSING;
        }

        int laneOf(int row) {
            return isRow(row) ? lanes[row] : 0;
        }

        boolean isMissing(int row) {
            return sizeOf(row) == MISSING;
        }

        /** Whether n ITEMS from i on are all there. */
        boolean spans(int row, int i, int n) {
            return i >= 0 && n >= 0 && i <= sizeOf(row) - n;
        }

        void lay(int row, int lane, int n) {
            if (!isRow(row) || n < 0 || n > ITEMS) {
                return;
            }
            lanes[row] = lane;
            sizes[row] = n;
            for (int i = 0; i < n; i++) {
                items[row * ITEMS + i] = 0;
            }
        }

        int put(int row, int i, int v) {
            if (!spans(row, i, 1)) {
                return 0;
            }
            int lane = lanes[row];
            int kept = lane == 0 ? (byte) v : lane == 1 ? (short) v : v;
            items[row * ITEMS + i] = kept;
            return kept;
        }

        int itemAt(int row, int i) {
            return spans(row, i, 1) ? items[row * ITEMS + i] : 0;
        }

        void carry(int a, int i, int b, int j, int n) {
            if (spans(a, i, n) && spans(b, j, n)) {
                System.arraycopy(items, a * ITEMS + i, items, b * ITEMS + j, n);
            }
        }

        int remove(int row) {
            int had = sizeOf(row);
            if (isRow(row)) {
                sizes[row] = MISSING;
            }
            return had;
        }

        int rows() {
            int rows = 0;
            for (int size : sizes) {
                if (size != MISSING) {
                    rows++;
                }
            }
            return rows;
        }
    }

    /** THE TAPE and the TOKEN that is read next; behind a FAULT nothing more is read. */
    private static final class Tape {
        private static final int FAULT_STAND = 1;
        private static final int FAULT_NUMBER = 2;
        private static final int FAULT_ROOM = 3;
        private static final int FAULT_AGAIN = 4;

        private static final int NO_TOKEN = 0;
        private static final int NAME = 1;
        private static final int NUMBER = 2;
        private static final int SIGN = 3;
        private static final int END = 4;

        private final byte[] bytes = new byte[BYTES];
        private int size;
        private int fault;
        private int place;
        private boolean failed;
        private int sort;
        private int start;
        private int end;

        int size() {
            return size;
        }

        boolean hasRoom(int n) {
            return n <= BYTES - size;
        }

        int append(long w, int n) {
            for (int i = n - 1; i >= 0 && size < BYTES; i--) {
                bytes[size] = (byte) (w >> (8 * i));
                size++;
            }
            return size;
        }

        void clear() {
            size = 0;
        }

        int latestFault() {
            return fault;
        }

        int faultPlace() {
            return place;
        }

        boolean hasFailed() {
            return failed;
        }

        void begin() {
            failed = false;
            end = 0;
            step();
        }

        private int byteAt(int i) {
            return i >= 0 && i < size ? bytes[i] : -1;
        }

        private static boolean isBlank(int sign) {
            return sign == 32 || sign == 10;
        }

        private static boolean isLetter(int sign) {
            return sign >= 'a' && sign <= 'z';
        }

        private static boolean isFigure(int sign) {
            return sign >= '0' && sign <= '9';
        }

        private void step() {
            start = end;
            while (start < size && isBlank(byteAt(start))) {
                start++;
            }
            end = start;
            int sign = byteAt(start);
            if (start >= size) {
                sort = END;
            } else if (isLetter(sign)) {
                sort = NAME;
                while (end < size && isLetter(byteAt(end))) {
                    end++;
                }
            } else if (isFigure(sign)) {
                while (end < size && isFigure(byteAt(end))) {
                    end++;
                }
                sort = end - start <= 4 ? NUMBER : NO_TOKEN;
            } else {
                end = start + 1;
                sort = sign == ';' || sign == '?' ? SIGN : NO_TOKEN;
            }
        }

        private int valueHere() {
            int value = 0;
            for (int i = start; i < end; i++) {
                value = value * 10 + (byteAt(i) - '0');
            }
            return value;
        }

        void blameHere(int number) {
            if (!failed) {
                failed = true;
                fault = number;
                place = start;
            }
        }

        boolean isAtEnd() {
            return sort == END;
        }

        boolean isAtName(String name) {
            if (sort != NAME || name.length() != end - start) {
                return false;
            }
            for (int i = 0; i < name.length(); i++) {
                if (byteAt(start + i) != name.charAt(i)) {
                    return false;
                }
            }
            return true;
        }

        private boolean isAtSign(int sign) {
            return sort == SIGN && byteAt(start) == sign;
        }

        private void pass(boolean stands) {
            if (!stands) {
                blameHere(FAULT_STAND);
            } else if (!failed) {
                step();
            }
        }

        void passName(String name) {
            pass(isAtName(name));
        }

        void passStop() {
            pass(isAtSign(';'));
        }

        void passEnd() {
            if (!isAtEnd()) {
                blameHere(FAULT_STAND);
            }
        }

        /** The NUMBER that stands here; 0 if it is at fault. */
        int passNumber(int least, int most) {
            int value = numberHere(least, most);
            if (!failed) {
                step();
            }
            return value;
        }

        /** The NUMBER that stands here, which stays the one that is read next. */
        int numberHere(int least, int most) {
            if (sort != NUMBER) {
                blameHere(FAULT_STAND);
            }
            int value = failed ? 0 : valueHere();
            if (value < least || value > most) {
                blameHere(FAULT_NUMBER);
            }
            return failed ? 0 : value;
        }

        /** The NUMBER that stands here, or NONE for a sign ?. */
        int passMark(int least, int most) {
            int value = isAtSign('?') ? NONE : numberHere(least, most);
            if (!failed) {
                step();
            }
            return value;
        }
    }

    /** A KITCHEN: what it measures by, what is sold in packets, how a cake rises. */
    private static final class Kitchen {
        private boolean there;
        private int measures;
        private final int[] measureOf = new int[MOST_MEASURES];
        private final int[] measureLand = new int[MOST_MEASURES];
        private final int[] measureYear = new int[MOST_MEASURES];
        private final int[] measureGrains = new int[MOST_MEASURES];
        private int packets;
        private final int[] packetThing = new int[MOST_PACKETS];
        private final int[] packetFrom = new int[MOST_PACKETS];
        private final int[] packetTill = new int[MOST_PACKETS];
        private final int[] lifts = new int[THINGS];
        private int heat;
        private int longs;
        private int beat;
        private int least;

        boolean isThere() {
            return there;
        }

        int measures() {
            return measures;
        }

        int packets() {
            return packets;
        }

        int least() {
            return least;
        }

        void become(Kitchen other) {
            there = other.there;
            measures = other.measures;
            packets = other.packets;
            heat = other.heat;
            longs = other.longs;
            beat = other.beat;
            least = other.least;
            System.arraycopy(other.measureOf, 0, measureOf, 0, MOST_MEASURES);
            System.arraycopy(other.measureLand, 0, measureLand, 0, MOST_MEASURES);
            System.arraycopy(other.measureYear, 0, measureYear, 0, MOST_MEASURES);
            System.arraycopy(other.measureGrains, 0, measureGrains, 0, MOST_MEASURES);
            System.arraycopy(other.packetThing, 0, packetThing, 0, MOST_PACKETS);
            System.arraycopy(other.packetFrom, 0, packetFrom, 0, MOST_PACKETS);
            System.arraycopy(other.packetTill, 0, packetTill, 0, MOST_PACKETS);
            System.arraycopy(other.lifts, 0, lifts, 0, THINGS);
        }

        /** Whether the tape is a KITCHEN's text; what is half read of a faulty one is of no use. */
        boolean readFrom(Tape tape) {
            measures = 0;
            packets = 0;
            tape.begin();
            // One more than there is room for, so that it is told as a FAULT.
            for (int i = 0; i <= MOST_MEASURES && tape.isAtName("measure"); i++) {
                readMeasure(tape);
            }
            for (int i = 0; i <= MOST_PACKETS && tape.isAtName("packet"); i++) {
                readPacket(tape);
            }
            readRise(tape);
            tape.passEnd();
            there = !tape.hasFailed();
            return there;
        }

        private void readMeasure(Tape tape) {
            if (measures >= MOST_MEASURES) {
                tape.blameHere(Tape.FAULT_ROOM);
                return;
            }
            tape.passName("measure");
            measureOf[measures] = tape.passNumber(0, MEASURES - 1);
            measureLand[measures] = tape.passNumber(0, LANDS - 1);
            measureYear[measures] = tape.passNumber(YEAR_FROM, YEAR_TILL);
            measureGrains[measures] = tape.passNumber(1, MOST_COUNT);
            tape.passStop();
            measures++;
        }

        private void readPacket(Tape tape) {
            if (packets >= MOST_PACKETS) {
                tape.blameHere(Tape.FAULT_ROOM);
                return;
            }
            tape.passName("packet");
            packetThing[packets] = tape.passNumber(0, THINGS - 1);
            packetFrom[packets] = tape.passNumber(YEAR_FROM, YEAR_TILL);
            packetTill[packets] = tape.passNumber(packetFrom[packets], YEAR_TILL);
            tape.passStop();
            packets++;
        }

        private void readRise(Tape tape) {
            tape.passName("rise");
            for (int thing = 0; thing < THINGS; thing++) {
                lifts[thing] = tape.passNumber(0, 9);
            }
            heat = tape.passNumber(0, MOST_HEAT);
            longs = tape.passNumber(0, MOST_COUNT);
            beat = tape.passNumber(0, MOST_COUNT);
            least = tape.passNumber(0, 9999);
            tape.passStop();
        }

        int grainsOf(int measure, int land, int year) {
            int latest = 0;
            int grains = 1;
            for (int i = 0; i < measures && i < MOST_MEASURES; i++) {
                boolean holds = measureOf[i] == measure && measureLand[i] == land && measureYear[i] <= year;
                if (holds && measureYear[i] >= latest) {
                    latest = measureYear[i];
                    grains = measureGrains[i];
                }
            }
            return grains;
        }

        /** What a MARK adds to RISE; a STAINED one counts as 0. */
        int liftOf(int mark, int value) {
            int counted = value == NONE ? 0 : value;
            switch (mark) {
                case HEAT:
                    return -10 * Math.abs(counted - heat);
                case LONG:
                    return -Math.abs(counted - longs);
                case BEAT:
                    return Math.min(counted, beat);
                default:
                    return isThing(mark) ? lifts[mark] * counted : 0;
            }
        }

        /** The latest FROM of a THING's packets; NONE: it has none. */
        int latestFrom(int thing) {
            int latest = NONE;
            for (int i = 0; i < packets && i < MOST_PACKETS; i++) {
                if (packetThing[i] == thing) {
                    latest = Math.max(latest, packetFrom[i]);
                }
            }
            return latest;
        }

        /** The earliest TILL of a THING's packets; beyond all YEARS: it has none. */
        int earliestTill(int thing) {
            int earliest = YEAR_TILL + 1;
            for (int i = 0; i < packets && i < MOST_PACKETS; i++) {
                if (packetThing[i] == thing) {
                    earliest = Math.min(earliest, packetTill[i]);
                }
            }
            return earliest;
        }
    }

    /** A CARD that is being written: it comes to a Deck when it is whole. */
    private static final class Page {
        private int land;
        private int year;
        private final int[] marks = new int[MARKS];
        private int seenThings;
        private boolean seenHeat;
        private boolean seenBeat;

        void begin(int newLand, int newYear) {
            land = newLand;
            year = newYear;
            seenThings = 0;
            seenHeat = false;
            seenBeat = false;
            Arrays.fill(marks, 0);
        }

        int land() {
            return land;
        }

        int year() {
            return year;
        }

        int valueOf(int mark) {
            return isMark(mark) ? marks[mark] : NONE;
        }

        boolean readFrom(Tape tape, Kitchen kitchen) {
            begin(0, YEAR_FROM);
            tape.begin();
            tape.passName("card");
            land = tape.passNumber(0, LANDS - 1);
            year = tape.passNumber(YEAR_FROM, YEAR_TILL);
            tape.passStop();
            for (int i = 0; i < BYTES && !tape.hasFailed() && !tape.isAtEnd(); i++) {
                readLine(tape, kitchen);
            }
            tape.passEnd();
            return !tape.hasFailed();
        }

        private void readLine(Tape tape, Kitchen kitchen) {
            if (tape.isAtName("add")) {
                readAdd(tape, kitchen);
            } else if (tape.isAtName("heat")) {
                readHeat(tape);
            } else if (tape.isAtName("beat")) {
                readBeat(tape);
            } else {
                tape.blameHere(Tape.FAULT_STAND);
            }
        }

        private void readAdd(Tape tape, Kitchen kitchen) {
            tape.passName("add");
            int thing = tape.numberHere(0, THINGS - 1);
            if ((seenThings >> thing & 1) != 0) {
                tape.blameHere(Tape.FAULT_AGAIN);
            }
            tape.passNumber(0, THINGS - 1);
            int amount = tape.passMark(1, MOST_COUNT);
            int measure = tape.passNumber(0, MEASURES - 1);
            tape.passStop();
            seenThings |= 1 << thing;
            if (isThing(thing)) {
                marks[thing] = amount == NONE ? NONE : amount * kitchen.grainsOf(measure, land, year);
            }
        }

        private void readHeat(Tape tape) {
            if (seenHeat) {
                tape.blameHere(Tape.FAULT_AGAIN);
            }
            seenHeat = true;
            tape.passName("heat");
            marks[HEAT] = tape.passMark(0, MOST_HEAT);
            marks[LONG] = tape.passMark(1, MOST_COUNT);
            tape.passStop();
        }

        private void readBeat(Tape tape) {
            if (seenBeat) {
                tape.blameHere(Tape.FAULT_AGAIN);
            }
            seenBeat = true;
            tape.passName("beat");
            marks[BEAT] = tape.passMark(1, MOST_COUNT);
            tape.passStop();
        }

        /** Whether 11 ITEMS could be taken as MARKS. */
        boolean takeItems(Shelf shelf, int row, int from) {
            for (int mark = 0; mark < MARKS; mark++) {
                int item = shelf.itemAt(row, from + mark);
                if (item < ITEM_STAINED || item > mostOf(mark)) {
                    return false;
                }
                marks[mark] = item == ITEM_STAINED ? NONE : item;
            }
            return true;
        }

        private static int mostOf(int mark) {
            if (mark < HEAT) {
                return MOST_GRAINS;
            }
            return mark == HEAT ? MOST_HEAT : MOST_COUNT;
        }

        void takeMarks(Deck deck, int card) {
            for (int mark = 0; mark < MARKS; mark++) {
                marks[mark] = deck.markAt(card, mark);
            }
        }

        /** Whether the MARKS could be changed by a LAW: GRAINS above 9999 are refused. */
        boolean applyLaw(int law, int a, int b) {
            if (!isThing(a) || !isThing(b)) {
                return false;
            }
            switch (law) {
                case LAW_LOST:
                    marks[a] = 0;
                    break;
                case LAW_DOUBLED:
                    marks[a] = marks[a] == NONE ? NONE : marks[a] * 2;
                    break;
                case LAW_HALVED:
                    marks[a] = marks[a] == NONE ? NONE : marks[a] / 2;
                    break;
                case LAW_SWAPPED:
                    marks[b] = marks[a] == NONE || marks[b] == NONE ? NONE : marks[a] + marks[b];
                    marks[a] = 0;
                    break;
                case LAW_HOTTER:
                    marks[HEAT] = marks[HEAT] == NONE ? NONE : Math.min(marks[HEAT] + 1, MOST_HEAT);
                    break;
                case LAW_SHORTER:
                    marks[LONG] = marks[LONG] == NONE ? NONE : Math.max(marks[LONG] - 5, 0);
                    break;
                default:
                    break;
            }
            return marks[a] <= MOST_GRAINS && marks[b] <= MOST_GRAINS;
        }
    }

    /** The CARDS of a KITCHEN, and who of them had it from whom. */
    private static final class Deck {
        private int size;
        private final int[] lands = new int[CARDS];
        private final int[] years = new int[CARDS];
        private final int[] mothers = new int[CARDS];
        private final int[] marks = new int[CARDS * MARKS];

        int size() {
            return size;
        }

        boolean isFull() {
            return size >= CARDS;
        }

        boolean has(int card) {
            return card >= 0 && card < size && card < CARDS;
        }

        void clear() {
            size = 0;
        }

        void become(Deck other) {
            size = other.size;
            System.arraycopy(other.lands, 0, lands, 0, CARDS);
            System.arraycopy(other.years, 0, years, 0, CARDS);
            System.arraycopy(other.mothers, 0, mothers, 0, CARDS);
            System.arraycopy(other.marks, 0, marks, 0, CARDS * MARKS);
        }

        int add(Page page, int mother) {
            if (isFull()) {
                return NONE;
            }
            int card = size;
            size++;
            lands[card] = page.land();
            years[card] = page.year();
            mothers[card] = mother;
            for (int mark = 0; mark < MARKS; mark++) {
                putMark(card, mark, page.valueOf(mark));
            }
            return card;
        }

        int landOf(int card) {
            return has(card) ? lands[card] : NONE;
        }

        int yearOf(int card) {
            return has(card) ? years[card] : NONE;
        }

        int motherOf(int card) {
            return has(card) ? mothers[card] : NONE;
        }

        int markAt(int card, int mark) {
            return has(card) && isMark(mark) ? marks[card * MARKS + mark] : NONE;
        }

        void putMark(int card, int mark, int value) {
            if (has(card) && isMark(mark)) {
                marks[card * MARKS + mark] = value;
            }
        }

        boolean mayBeMother(int mother, int year) {
            return mother == NONE || (has(mother) && yearOf(mother) <= year);
        }

        int stainsOf(int card) {
            int stains = 0;
            for (int mark = 0; mark < MARKS; mark++) {
                if (markAt(card, mark) == NONE) {
                    stains++;
                }
            }
            return stains;
        }

        int allStains() {
            int stains = 0;
            for (int card = 0; card < size; card++) {
                stains += stainsOf(card);
            }
            return stains;
        }

        int daughtersOf(int card) {
            int daughters = 0;
            for (int other = 0; other < size; other++) {
                if (motherOf(other) == card) {
                    daughters++;
                }
            }
            return daughters;
        }

        /** How many THINGS are known to be there. */
        int thingsOf(int card) {
            int things = 0;
            for (int thing = 0; thing < THINGS; thing++) {
                if (markAt(card, thing) > 0) {
                    things++;
                }
            }
            return things;
        }

        boolean isUnlike(int a, int b, int mark) {
            int one = markAt(a, mark);
            int other = markAt(b, mark);
            return one != NONE && other != NONE && one != other;
        }

        int apart(int a, int b) {
            int unlike = 0;
            for (int mark = 0; mark < MARKS; mark++) {
                if (isUnlike(a, b, mark)) {
                    unlike++;
                }
            }
            return unlike;
        }

        private boolean isEarlier(int a, int b) {
            int one = yearOf(a);
            int other = yearOf(b);
            return one < other || (one == other && a < b);
        }

        /** The least earlier CARD of which a CARD is UNLIKE in the fewest MARKS; NONE: none is earlier. */
        int nearestMother(int card) {
            int nearest = NONE;
            int least = MARKS + 1;
            for (int other = 0; other < size; other++) {
                if (isEarlier(other, card) && apart(other, card) < least) {
                    least = apart(other, card);
                    nearest = other;
                }
            }
            return nearest;
        }

        int leastChanges() {
            int changes = 0;
            for (int card = 0; card < size; card++) {
                int nearest = nearestMother(card);
                if (nearest != NONE) {
                    changes += apart(nearest, card);
                }
            }
            return changes;
        }

        /** Each CARD takes its mother freely, so the rows are all that can be put together. */
        long leastRows() {
            long rows = 1;
            for (int card = 0; card < size; card++) {
                int nearest = nearestMother(card);
                if (nearest != NONE) {
                    rows = rows * asNear(card, apart(nearest, card));
                }
            }
            return rows;
        }

        private int asNear(int card, int changes) {
            int mothersAsNear = 0;
            for (int other = 0; other < size; other++) {
                if (isEarlier(other, card) && apart(other, card) == changes) {
                    mothersAsNear++;
                }
            }
            return mothersAsNear;
        }

        /** Of the least pair that a CARD had: what it costs (0), the lesser (1), the greater (2). */
        int costOfTwo(int card, int what) {
            int least = NONE;
            int lesser = NONE;
            int greater = NONE;
            for (int a = 0; a < size; a++) {
                for (int b = a + 1; b < size && isEarlier(a, card); b++) {
                    int cost = isEarlier(b, card) ? costOfPair(card, a, b) : NONE;
                    if (cost != NONE && (least == NONE || cost < least)) {
                        least = cost;
                        lesser = a;
                        greater = b;
                    }
                }
            }
            if (what == 0) {
                return least;
            }
            return what == 1 ? lesser : greater;
        }

        private int costOfPair(int card, int a, int b) {
            int cost = 1;
            for (int mark = 0; mark < MARKS; mark++) {
                int value = markAt(card, mark);
                if (value != NONE && markAt(a, mark) != value && markAt(b, mark) != value) {
                    cost++;
                }
            }
            return cost;
        }

        /** How many come from a CARD that has left out a THING; NONE: it has not. */
        int leftOut(int card, int thing) {
            if (markAt(motherOf(card), thing) <= 0 || markAt(card, thing) != 0) {
                return NONE;
            }
            int heirs = 0;
            int family = 1 << card;
            // A mother is there ahead of her daughters, so one pass meets all that come from a CARD.
            for (int other = card + 1; other < size; other++) {
                int mother = motherOf(other);
                if (mother >= 0 && (family >> mother & 1) != 0) {
                    if (markAt(other, thing) != 0) {
                        return NONE;
                    }
                    family |= 1 << other;
                    heirs++;
                }
            }
            return heirs;
        }

        int mendFrom(int card, int a, int b, int c) {
            int mended = 0;
            for (int mark = 0; mark < MARKS; mark++) {
                if (markAt(card, mark) == NONE) {
                    int value = agreed(markAt(a, mark), markAt(b, mark), markAt(c, mark));
                    putMark(card, mark, value);
                    mended += value == NONE ? 0 : 1;
                }
            }
            return mended;
        }

        /** What two or three of them have; NONE: no two agree on what is known. */
        private static int agreed(int a, int b, int c) {
            if (a != NONE && (a == b || a == c)) {
                return a;
            }
            return b == c ? b : NONE;
        }
    }

    /** A KITCHEN and its CARDS: as they are, or as an IMAGE keeps them. */
    private static final class Household {
        private final Kitchen kitchen = new Kitchen();
        private final Deck deck = new Deck();

        void become(Household other) {
            kitchen.become(other.kitchen);
            deck.become(other.deck);
        }

        int riseOf(int card) {
            int rise = 0;
            for (int mark = 0; mark < MARKS; mark++) {
                rise += kitchen.liftOf(mark, deck.markAt(card, mark));
            }
            return rise;
        }

        boolean sinks(int card) {
            return riseOf(card) < kitchen.least();
        }

        int kindOf(int card) {
            if (deck.stainsOf(card) == 0) {
                if (sinks(card)) {
                    return KIND_SUNK;
                }
                return deck.motherOf(card) == NONE ? KIND_OWN : KIND_WHOLE;
            }
            int mother = deck.motherOf(card);
            return mother != NONE && deck.apart(card, mother) >= 2 ? KIND_ILL : KIND_MARRED;
        }

        /** The latest FROM of all packets of a CARD's THINGS; NONE: there is no such packet. */
        int latestFrom(int card) {
            int latest = NONE;
            for (int thing = 0; thing < THINGS; thing++) {
                if (deck.markAt(card, thing) > 0) {
                    latest = Math.max(latest, kitchen.latestFrom(thing));
                }
            }
            return latest;
        }

        int earliestTill(int card) {
            int earliest = YEAR_TILL + 1;
            for (int thing = 0; thing < THINGS; thing++) {
                if (deck.markAt(card, thing) > 0) {
                    earliest = Math.min(earliest, kitchen.earliestTill(thing));
                }
            }
            return earliest;
        }
    }

    /** Sets as bits, of which the fewest are looked for: what is to BLAME, a BOOK. */
    private static final class Subsets {
        private final int[] single = new int[CARDS];
        /** For each set what its members come to together, made from that of the set without its lowest. */
        private final int[] together = new int[1 << CARDS];
        private int first;
        private int fewest;
        private int ways;

        int firstSet() {
            return first;
        }

        int ways() {
            return ways;
        }

        private void begin() {
            first = NONE;
            fewest = CARDS + 1;
            ways = 0;
            together[0] = 0;
        }

        private void take(int set) {
            int members = Integer.bitCount(set);
            if (members < fewest) {
                fewest = members;
                first = set;
                ways = 0;
            }
            if (members == fewest) {
                ways++;
            }
        }

        void findBlame(Household house, int good, int sunk) {
            begin();
            int unlike = 0;
            for (int mark = 0; mark < MARKS; mark++) {
                if (house.deck.isUnlike(good, sunk, mark)) {
                    unlike |= 1 << mark;
                    int after = house.kitchen.liftOf(mark, house.deck.markAt(sunk, mark));
                    single[mark] = after - house.kitchen.liftOf(mark, house.deck.markAt(good, mark));
                }
            }
            int toSink = house.kitchen.least() - house.riseOf(good);
            for (int set = 1; set < (1 << MARKS); set++) {
                if ((set & ~unlike) == 0) {
                    int lowest = Integer.numberOfTrailingZeros(set);
                    together[set] = together[set & (set - 1)] + single[lowest];
                    if (together[set] < toSink) {
                        take(set);
                    }
                }
            }
        }

        void findBook(Deck deck, int d) {
            begin();
            int size = deck.size();
            int all = (1 << size) - 1;
            for (int card = 0; card < size && card < CARDS; card++) {
                single[card] = nearTo(deck, card, d);
            }
            for (int set = 1; set <= all && set < (1 << CARDS); set++) {
                int lowest = Integer.numberOfTrailingZeros(set);
                together[set] = together[set & (set - 1)] | single[lowest];
                if (together[set] == all) {
                    take(set);
                }
            }
        }

        /** The CARDS for which it is enough that a CARD is in the BOOK. */
        private static int nearTo(Deck deck, int card, int d) {
            int near = 0;
            for (int other = 0; other < deck.size(); other++) {
                if (other == card || deck.apart(card, other) <= d) {
                    near |= 1 << other;
                }
            }
            return near;
        }
    }

    /** The CARDS at the ends of TREES. What each has for a MARK is a set of bits, one for each known value. */
    private static final class Grove {
        private int ends;
        private final int[] cards = new int[ENDS];
        private final int[] values = new int[MARKS * ENDS];
        private final int[] known = new int[MARKS];
        private final int[] codes = new int[MARKS * ENDS];

        int ends() {
            return ends;
        }

        void gather(Deck deck, int set) {
            ends = 0;
            for (int card = 0; card < deck.size() && ends < ENDS; card++) {
                if ((set >> card & 1) != 0) {
                    cards[ends] = card;
                    ends++;
                }
            }
            for (int mark = 0; mark < MARKS; mark++) {
                known[mark] = 0;
                for (int end = 0; end < ends; end++) {
                    meet(mark, deck.markAt(cards[end], mark));
                }
                for (int end = 0; end < ends; end++) {
                    codes[mark * ENDS + end] = encode(mark, deck.markAt(cards[end], mark));
                }
            }
        }

        /** Puts a value among the known ones of a MARK, which stand rising, each once. */
        private void meet(int mark, int value) {
            int base = mark * ENDS;
            int place = known[mark];
            while (place > 0 && values[base + place - 1] > value) {
                place--;
            }
            boolean isThere = place > 0 && values[base + place - 1] == value;
            if (value == NONE || isThere || known[mark] >= ENDS) {
                return;
            }
            for (int i = known[mark]; i > place; i--) {
                values[base + i] = values[base + i - 1];
            }
            values[base + place] = value;
            known[mark]++;
        }

        /** A STAINED MARK is free: it may be any of the known values. */
        private int encode(int mark, int value) {
            int code = 0;
            for (int i = 0; i < known[mark] && i < ENDS; i++) {
                if (value == NONE || value == values[mark * ENDS + i]) {
                    code |= 1 << i;
                }
            }
            return code;
        }

        int codeAt(int mark, int end) {
            return isMark(mark) && end >= 0 && end < ends ? codes[mark * ENDS + end] : 0;
        }

        int valueAt(int mark, int i) {
            return isMark(mark) && i >= 0 && i < known[mark] && i < ENDS ? values[mark * ENDS + i] : NONE;
        }

        int cardsOf(int join) {
            int set = 0;
            for (int end = 0; end < ends; end++) {
                if ((join >> end & 1) != 0) {
                    set |= 1 << cards[end];
                }
            }
            return set;
        }
    }

    /** All TREES of a Grove. */
    private static final class Forest {
        private final Grove grove = new Grove();
        private int ends;
        /** End k is node 2k - 1 (end 0 is node 0); the fork that came with it is node 2k. */
        private final int[] codes = new int[MARKS * NODES];
        private final int[] parent = new int[NODES];
        private final int[] one = new int[NODES];
        private final int[] other = new int[NODES];
        private final int[] clade = new int[NODES];
        /** The forks of a TREE, each behind those on its own branches: the last is the top one. */
        private final int[] order = new int[ENDS];
        private int forks;
        private final int[] varying = new int[MARKS];
        private int varyings;

        private int changes;
        private int least;
        private int ways;
        private int all;
        private long sureJoins;
        private final int[] may = new int[MARKS];

        int leastChanges() {
            return least;
        }

        int leastTrees() {
            return ways;
        }

        int allTrees() {
            return all;
        }

        void grow(Deck deck, int set) {
            grove.gather(deck, set);
            // The answers hang on nothing but ends and codes: while these hold still, so do they.
            if (!plantEnds()) {
                return;
            }
            all = 1;
            for (int k = 2; k < ends; k++) {
                all = all * (2 * k - 1);
            }
            least = MARKS * ENDS;
            ways = 0;
            sortMarks();
            for (int tree = 0; tree < all; tree++) {
                build(tree);
                countChanges();
                compare();
            }
        }

        /** Whether the ends are other ones than before. */
        private boolean plantEnds() {
            boolean isNew = ends != grove.ends();
            ends = grove.ends();
            for (int end = 0; end < ends && end < ENDS; end++) {
                int leaf = leafOf(end);
                clade[leaf] = 1 << end;
                for (int mark = 0; mark < MARKS; mark++) {
                    int code = grove.codeAt(mark, end);
                    isNew = isNew || codes[mark * NODES + leaf] != code;
                    codes[mark * NODES + leaf] = code;
                }
            }
            return isNew;
        }

        private static int leafOf(int end) {
            return end == 0 ? 0 : 2 * end - 1;
        }

        /** A MARK that can be one and the same at all ends never changes, whatever the TREE. */
        private void sortMarks() {
            varyings = 0;
            for (int mark = 0; mark < MARKS; mark++) {
                int common = -1;
                int any = 0;
                for (int end = 0; end < ends; end++) {
                    common &= grove.codeAt(mark, end);
                    any |= grove.codeAt(mark, end);
                }
                may[mark] = common;
                if (common == 0 && any != 0) {
                    varying[varyings] = mark;
                    varyings++;
                }
            }
        }

        /** The number of a TREE tells of each end on which branch of those before it is grafted. */
        private void build(int tree) {
            int rest = tree;
            parent[0] = NONE;
            forks = 0;
            for (int end = 1; end < ends && end < ENDS; end++) {
                int branches = 2 * end - 1;
                graft(end, rest % branches);
                rest = rest / branches;
            }
        }

        private void graft(int end, int node) {
            int fork = 2 * end;
            int above = parent[node];
            one[fork] = node;
            other[fork] = leafOf(end);
            parent[fork] = above;
            parent[node] = fork;
            parent[leafOf(end)] = fork;
            if (above != NONE && one[above] == node) {
                one[above] = fork;
            } else if (above != NONE) {
                other[above] = fork;
            }
            // Right behind the node, if that is a fork, or else ahead of all.
            int place = forks;
            while (place > 0 && order[place - 1] != node) {
                order[place] = order[place - 1];
                place--;
            }
            order[place] = fork;
            forks++;
        }

        /** By Fitch's rule: a fork keeps what both branches may have, or else pays for either. */
        private void countChanges() {
            changes = 0;
            for (int i = 0; i < varyings && changes <= least; i++) {
                int base = varying[i] * NODES;
                for (int k = 0; k < forks; k++) {
                    int fork = order[k];
                    int a = codes[base + one[fork]];
                    int b = codes[base + other[fork]];
                    if ((a & b) != 0) {
                        codes[base + fork] = a & b;
                    } else {
                        codes[base + fork] = a | b;
                        changes++;
                    }
                }
            }
        }

        private void compare() {
            if (changes > least || forks < 1) {
                return;
            }
            boolean isLess = changes < least;
            if (isLess) {
                least = changes;
                ways = 0;
                sureJoins = -1L;
            }
            ways++;
            sureJoins &= joins();
            for (int i = 0; i < varyings; i++) {
                int mark = varying[i];
                int top = codes[mark * NODES + order[forks - 1]];
                may[mark] = isLess ? top : may[mark] | top;
            }
        }

        /** The sets of ends above the forks, but the top one: set k is bit k. */
        private long joins() {
            long joins = 0;
            for (int k = 0; k < forks - 1; k++) {
                int fork = order[k];
                clade[fork] = clade[one[fork]] | clade[other[fork]];
                joins |= 1L << clade[fork];
            }
            return joins;
        }

        /** The i-th join that is in each LEAST TREE, as a set of CARDS; how many for i = -1. */
        long sureJoin(int i) {
            int met = 0;
            for (int join = 0; join < (1 << ENDS); join++) {
                if ((sureJoins >> join & 1) != 0) {
                    if (met == i) {
                        return grove.cardsOf(join);
                    }
                    met++;
                }
            }
            return i == -1 ? met : NONE;
        }

        /** The i-th value that the top fork may have; how many for i = -1. */
        long firstValue(int mark, int i) {
            int met = 0;
            for (int k = 0; k < ENDS && isMark(mark); k++) {
                if ((may[mark] >> k & 1) != 0) {
                    if (met == i) {
                        return grove.valueAt(mark, k);
                    }
                    met++;
                }
            }
            return i == -1 ? met : NONE;
        }
    }

    /** ASKS of a CARD, by BODIES, and THE TRACE that they leave. */
    private static final class Asker {
        private static final int SIZE = 0;
        private static final int MARK = 1;
        private static final int MOST_TRACE = 16;
        /** No ask goes half as deep: MARK of an ILL one opens five BODIES within one another. */
        private static final int DEEPEST = 12;

        private final int[] trace = new int[MOST_TRACE];
        private int traced;
        private int number;
        private int kind;
        private int year;
        private int things;
        private int stains;
        private int rise;

        int answer(Household house, int card, int what) {
            traced = 0;
            number = card;
            kind = house.kindOf(card);
            year = house.deck.yearOf(card);
            things = house.deck.thingsOf(card);
            stains = house.deck.stainsOf(card);
            rise = house.riseOf(card);
            return run(bodyOf(what), 0);
        }

        int traceAt(int i) {
            return i >= 0 && i < traced && i < MOST_TRACE ? trace[i] : NONE;
        }

        private void leave(int body) {
            if (traced < MOST_TRACE) {
                trace[traced] = body;
                traced++;
            }
        }

        /** The BODY that begins, by what the CARD is told as. */
        private int bodyOf(int what) {
            switch (kind) {
                case KIND_WHOLE:
                    return what == SIZE ? 11 : 20;
                case KIND_OWN:
                    return what == SIZE ? 11 : 21;
                case KIND_SUNK:
                    return what == SIZE ? 12 : 24;
                case KIND_MARRED:
                    return what == SIZE ? 13 : 22;
                case KIND_ILL:
                    return what == SIZE ? 14 : 23;
                default:
                    return what == SIZE ? 10 : 20;
            }
        }

        /** The parts of a sum are asked from left to right, as THE TRACE tells. */
        private int run(int body, int depth) {
            if (depth > DEEPEST) {
                return 0;
            }
            leave(body);
            int deeper = depth + 1;
            switch (body) {
                case 10:
                    return things;
                case 11:
                    return run(10, deeper) + run(bodyOf(MARK), deeper);
                case 12:
                    return 2 * run(11, deeper);
                case 13:
                    return run(10, deeper) - stains;
                case 14:
                    return run(13, deeper) + 100;
                case 20:
                    return number;
                case 21:
                    return run(20, deeper) + year;
                case 22:
                    return run(20, deeper) + run(bodyOf(SIZE), deeper);
                case 23:
                    return -run(22, deeper);
                default:
                    return run(20, deeper) + rise;
            }
        }
    }
}
