import java.util.Arrays;

/** The boundary cases of ROWS: promises 2 to 5, and 37. */
public final class RowEdgeTest extends Checks {
    private static final int[] BEYOND_ROWS = {-1, 8, MIN, MAX};

    /** What the ITEMS of a ROW are (0 to 9, or -1): copied by elevens to ROW 7, they are told as MARKS. */
    private static void dueItems(CakeCards x, int row, int lane, int... items) {
        for (int from = 0; from < items.length; from += 11) {
            int n = Math.min(11, items.length - from);
            x.row(7, lane, 11);
            due("copy(" + row + ", " + from + ", 7, 0, " + n + ")", x.copy(row, from, 7, 0, n), n);
            kitchen(x, PLAIN);
            due("told", x.told(0, 1900, 7, 0, NONE), 0);
            for (int k = 0; k < n; k++) {
                long want = items[from + k] == -1 ? NONE : items[from + k];
                due("ITEM " + (from + k) + " of " + row, x.mark(0, k), want);
            }
        }
    }

    private static int[] figures(int n) {
        int[] items = new int[n];
        for (int i = 0; i < n; i++) {
            items[i] = (i * 7 + 3) % 10;
        }
        return items;
    }

    private static void fill(CakeCards x, int row, int lane, int... items) {
        x.row(row, lane, items.length);
        for (int i = 0; i < items.length; i++) {
            due("set(" + row + ", " + i + ")", x.set(row, i, items[i]), items[i]);
        }
    }

    private static void missingAtFirst() {
        says("ROWS 0 .. 7 are missing (at first)");
        for (int row = 0; row < 8; row++) {
            CakeCards x = withKitchen(PLAIN);
            due("count(0)", x.count(0), 0);
            due("set(" + row + ", 0, 0)", x.set(row, 0, 0), NULL);
            due("drop(" + row + ")", x.drop(row), NULL);
            due("copy(" + row + ")", x.copy(row, 0, row, 0, 0), NULL);
            due("told of " + row, x.told(0, 1900, row, 0, NONE), NULL);
            due("row(" + row + ", 0, 1)", x.row(row, 0, 1), 1);
            due("set(" + row + ", 0, 5)", x.set(row, 0, 5), 5);
            due("count(0)", x.count(0), 1);
        }
    }

    private static void lanesAndSizes() {
        says("have a LANE (0 bytes, 1 shorts, 2 ints) and 0 to 40 ITEMS");
        for (int lane = 0; lane < 3; lane++) {
            for (int n = 0; n <= 40; n++) {
                CakeCards x = new CakeCards();
                due("row(3, " + lane + ", " + n + ")", x.row(3, lane, n), n);
                due("beyond the end", x.set(3, n, 1), PLACE);
                if (n > 0) {
                    due("the last", x.set(3, n - 1, 9), 9);
                }
                due("drop(3)", x.drop(3), n);
            }
        }
        says("A ROW of a LANE with n ITEMS, in place of what is there: n. BAD: ROW, LANE, n above 40; SIZE.");
        CakeCards x = new CakeCards();
        for (int row : BEYOND_ROWS) {
            due("row(" + row + ")", x.row(row, 0, 1), BAD);
        }
        for (int lane : new int[] {-1, 3, MIN, MAX}) {
            due("LANE " + lane, x.row(0, lane, 1), BAD);
            due("BAD ahead of SIZE", x.row(0, lane, -1), BAD);
        }
        for (int n : new int[] {41, 42, 256, MAX}) {
            due("n " + n, x.row(0, 0, n), BAD);
        }
        due("no ROW came of it", x.count(0), 0);
        due("no FINDING", x.status(), 0);
        for (int n : new int[] {-1, -2, -40, MIN}) {
            due("n " + n, x.row(0, 0, n), SIZE);
            due("status()", x.status(), 4);
        }
        due("BAD ROW ahead of SIZE", x.row(8, 0, -1), BAD);
        due("no ROW came of it", x.count(0), 0);
    }

    private static void zeroAtFirst() {
        says("0 to 40 ITEMS, 0 at first");
        for (int lane = 0; lane < 3; lane++) {
            CakeCards x = new CakeCards();
            x.row(2, lane, 40);
            dueItems(x, 2, lane, new int[40]);
            fill(x, 2, lane, figures(40));
            dueItems(x, 2, lane, figures(40));
            x.row(2, lane, 40);
            dueItems(x, 2, lane, new int[40]);
        }
        says("in place of what is there");
        CakeCards x = new CakeCards();
        fill(x, 2, 2, figures(40));
        fill(x, 1, 2, figures(11));
        fill(x, 3, 2, figures(11));
        due("shorter", x.row(2, 0, 5), 5);
        dueItems(x, 2, 0, 0, 0, 0, 0, 0);
        due("one ROW", x.count(0), 4);
        due("of bytes now", x.set(2, 4, 200), -56);
        due("beyond", x.set(2, 5, 1), PLACE);
        dueItems(x, 1, 2, figures(11));
        dueItems(x, 3, 2, figures(11));
        due("longer again", x.row(2, 0, 40), 40);
        dueItems(x, 2, 0, new int[40]);
        due("none", x.row(2, 0, 0), 0);
        due("it is there", x.set(2, 0, 1), PLACE);
        due("refused, it stays", x.row(2, 0, -1), SIZE);
        due("refused, it stays", x.row(2, 0, 41), BAD);
        due("it had none", x.drop(2), 0);
    }

    private static int[] figuresOf(int row) {
        int[] items = figures(40);
        for (int i = 0; i < 40; i++) {
            items[i] = (items[i] + row) % 9 + 1;
        }
        return items;
    }

    private static CakeCards eightFull() {
        CakeCards x = new CakeCards();
        for (int row = 0; row < 8; row++) {
            int[] items = figuresOf(row);
            x.row(row, 2, 40);
            for (int i = 0; i < 40; i++) {
                x.set(row, i, items[i]);
            }
        }
        return x;
    }

    private static void neighboursStay() {
        says("ROWS 0 .. 7 are missing (at first), or have a LANE (0 bytes, 1 shorts, 2 ints) and 0 to 40 ITEMS, 0 at first.");
        for (int row = 0; row < 8; row++) {
            for (int other = 0; other < 7; other++) {
                CakeCards x = eightFull();
                due("anew", x.row(row, 2, 40), 40);
                dueItems(x, other, 2, other == row ? new int[40] : figuresOf(other));
            }
            CakeCards x = eightFull();
            due("dropped", x.drop(row), 40);
            due("beyond the end of the one ahead", x.set((row + 7) % 8, 40, 0), PLACE);
            due("the first of the next", x.copy((row + 1) % 8, 0, (row + 2) % 8, 39, 1), 1);
            due("count(0)", x.count(0), 7);
        }
        CakeCards x = eightFull();
        due("the last ROW as it was", x.copy(7, 0, 0, 0, 40), 40);
        dueItems(x, 0, 2, figuresOf(7));
        CakeCards y = eightFull();
        due("the last ROW anew", y.row(7, 2, 40), 40);
        due("all of it", y.copy(7, 0, 1, 0, 40), 40);
        dueItems(y, 1, 2, new int[40]);
    }

    private static void dueSet(CakeCards x, int row, int v, int want) {
        due("set(" + row + ", 0, " + v + ")", x.set(row, 0, v), want);
    }

    private static void lowestBits() {
        says("ITEM i becomes v, its lowest bits, as many as the LANE has (read with their sign): what it is then.");
        CakeCards x = new CakeCards();
        x.row(0, 0, 1);
        x.row(1, 1, 1);
        x.row(2, 2, 1);
        int[] bytes = {0, 0, 1, 1, -1, -1, 127, 127, 128, -128, 129, -127, 255, -1, 256, 0, 257, 1, 383, 127, 384, -128,
            -128, -128, -129, 127, -255, 1, -256, 0, -257, -1, 32767, -1, 32768, 0, 65535, -1, MAX, -1, MIN, 0};
        for (int i = 0; i < bytes.length; i += 2) {
            dueSet(x, 0, bytes[i], bytes[i + 1]);
        }
        int[] shorts = {0, 0, 127, 127, 128, 128, 255, 255, 256, 256, 32767, 32767, 32768, -32768, 32769, -32767,
            65535, -1, 65536, 0, 65537, 1, 98303, 32767, 98304, -32768, -1, -1, -128, -128, -129, -129,
            -32768, -32768, -32769, 32767, -65535, 1, -65536, 0, -65537, -1, MAX, -1, MIN, 0};
        for (int i = 0; i < shorts.length; i += 2) {
            dueSet(x, 1, shorts[i], shorts[i + 1]);
        }
        for (int v : new int[] {0, 1, -1, 128, 255, 256, 32768, 65535, 65536, -32769, 10000, MAX, MIN}) {
            dueSet(x, 2, v, v);
        }
        int[] minusOne = {255, 65535, -1};
        int[] seven = {256 + 7, 65536 + 7, 7};
        for (int lane = 0; lane < 3; lane++) {
            CakeCards y = new CakeCards();
            y.row(0, lane, 3);
            due("set", y.set(0, 1, minusOne[lane]), -1);
            due("set", y.set(0, 2, seven[lane]), 7);
            dueItems(y, 0, lane, 0, -1, 7);
        }
        says("BAD: ROW; NULL; PLACE.");
        for (int row : BEYOND_ROWS) {
            due("set(" + row + ")", x.set(row, -1, 0), BAD);
        }
        due("missing", x.set(5, -1, 0), NULL);
        for (int i : new int[] {-1, 1, 2, 40, MIN, MAX}) {
            due("set(0, " + i + ")", x.set(0, i, 0), PLACE);
            due("status()", x.status(), 2);
        }
    }

    private static void copiesAsTheyWereAhead() {
        says("n ITEMS of a from i on come to b from j on, as they were ahead: n.");
        int[] was = figures(11);
        for (int i = 0; i <= 11; i++) {
            for (int j = 0; j <= 11; j++) {
                int n = Math.min(11 - Math.max(i, j), 4);
                CakeCards x = new CakeCards();
                fill(x, 0, 1, was);
                due("copy(0, " + i + ", 0, " + j + ", " + n + ")", x.copy(0, i, 0, j, n), n);
                int[] now = was.clone();
                for (int k = 0; k < n; k++) {
                    now[j + k] = was[i + k];
                }
                dueItems(x, 0, 1, now);
            }
        }
        CakeCards x = new CakeCards();
        fill(x, 0, 2, figures(40));
        x.row(1, 2, 40);
        due("all", x.copy(0, 0, 1, 0, 40), 40);
        dueItems(x, 1, 2, figures(40));
        due("over itself", x.copy(0, 0, 0, 0, 40), 40);
        dueItems(x, 0, 2, figures(40));
        fill(x, 3, 0, -1, 5);
        x.row(4, 0, 3);
        due("with its sign", x.copy(3, 0, 4, 1, 2), 2);
        dueItems(x, 4, 0, 0, -1, 5);
        dueItems(x, 3, 0, -1, 5);
    }

    private static void copyPlaces() {
        says("BAD: ROWS; NULL; STORE; PLACE (i, j, n below 0, or beyond an end).");
        CakeCards x = new CakeCards();
        fill(x, 0, 1, 1, 2, 3);
        fill(x, 1, 1, 4, 5, 6, 7);
        x.row(2, 2, 4);
        x.row(3, 1, 0);
        int[][] good = {{0, 0, 1, 0, 3}, {0, 3, 1, 4, 0}, {0, 0, 1, 1, 3}, {1, 0, 0, 0, 3}, {1, 1, 0, 0, 3},
            {0, 2, 1, 3, 1}, {3, 0, 3, 0, 0}, {3, 0, 0, 3, 0}, {0, 3, 3, 0, 0}};
        for (int[] c : good) {
            due("copy " + Arrays.toString(c), x.copy(c[0], c[1], c[2], c[3], c[4]), c[4]);
            due("status()", x.status(), 0);
        }
        fill(x, 0, 1, 1, 2, 3);
        fill(x, 1, 1, 4, 5, 6, 7);
        int[][] off = {{0, -1, 1, 0, 1}, {0, 0, 1, -1, 1}, {0, 0, 1, 0, -1}, {0, 0, 1, 0, 4}, {1, 0, 0, 0, 4},
            {0, 1, 1, 0, 3}, {1, 0, 0, 1, 3}, {0, 4, 1, 0, 0}, {0, 0, 1, 5, 0}, {0, 3, 1, 0, 1}, {0, 0, 1, 4, 1},
            {0, MAX, 1, 0, 1}, {0, 0, 1, MAX, 1}, {0, 0, 1, 0, MAX}, {0, MAX, 1, 0, MAX}, {0, 1, 1, 1, MAX},
            {0, MIN, 1, 0, 0}, {0, 0, 1, MIN, 0}, {0, 0, 1, 0, MIN}, {0, MIN, 1, MIN, MIN}, {0, 1, 1, 1, MIN},
            {3, 0, 3, 0, 1}, {3, 0, 0, 0, 1}, {0, 0, 3, 0, 1}, {3, 1, 3, 0, 0}, {3, -1, 3, 0, 0}, {0, -1, 0, -1, 0}};
        for (int[] c : off) {
            x.drop(6);
            due("copy " + Arrays.toString(c), x.copy(c[0], c[1], c[2], c[3], c[4]), PLACE);
            due("status()", x.status(), 2);
        }
        dueItems(x, 0, 1, 1, 2, 3);
        dueItems(x, 1, 1, 4, 5, 6, 7);
        due("STORE ahead of PLACE", x.copy(0, -1, 2, 0, 1), STORE);
        due("STORE, none to copy", x.copy(0, 0, 2, 0, 0), STORE);
        due("status()", x.status(), 5);
        due("NULL ahead of STORE and PLACE", x.copy(6, -1, 2, 0, 1), NULL);
        due("NULL, the other one", x.copy(2, -1, 6, 0, 1), NULL);
        due("NULL, none to copy", x.copy(0, 0, 6, 0, 0), NULL);
        due("status()", x.status(), 1);
        for (int row : BEYOND_ROWS) {
            due("BAD ahead of NULL", x.copy(row, 0, 6, 0, 0), BAD);
            due("BAD ahead of NULL", x.copy(6, 0, row, 0, 0), BAD);
        }
    }

    private static void storesOfTwoLanes() {
        says("5 STORE (ROWS of two LANES)");
        for (int a = 0; a < 3; a++) {
            for (int b = 0; b < 3; b++) {
                CakeCards x = new CakeCards();
                x.row(0, a, 2);
                x.row(1, b, 2);
                due("copy of " + a + " to " + b, x.copy(0, 0, 1, 0, 2), a == b ? 2 : STORE);
            }
        }
    }

    private static void drops() {
        says("A ROW is missing from now on: how many ITEMS it had. BAD; NULL.");
        CakeCards x = new CakeCards();
        for (int row = 0; row < 8; row++) {
            due("row", x.row(row, row % 3, row * 5), row * 5);
        }
        due("all eight", x.count(0), 8);
        for (int row = 0; row < 8; row++) {
            due("drop(" + row + ")", x.drop(row), row * 5);
            due("status()", x.status(), 0);
            due("once more", x.drop(row), NULL);
            due("status()", x.status(), 1);
            due("set of it", x.set(row, 0, 0), NULL);
            due("count(0)", x.count(0), 7 - row);
        }
        for (int row : BEYOND_ROWS) {
            due("drop(" + row + ")", x.drop(row), BAD);
        }
        due("row again", x.row(7, 0, 2), 2);
        dueItems(x, 7, 0);
        due("0 at first", x.set(7, 1, 3), 3);
    }

    private static CakeCards withOneCard() {
        CakeCards x = withKitchen(PLAIN);
        told(x, 1900, NONE);
        return x;
    }

    private static void statusOfTheLatest() {
        says("Of the latest call with a ROW, or as(), that was not BAD, STATE, FULL: the number of its FINDING; 0: it had none, or there was none.");
        due("there was none", new CakeCards().status(), 0);
        CakeCards x = withOneCard();
        due("told had none", x.status(), 0);
        due("as", x.as(0, 2), KIND);
        due("3", x.status(), 3);
        due("read again", x.status(), 3);
        due("row", x.row(0, 0, 1), 1);
        due("row had none", x.status(), 0);
        x.as(0, 2);
        due("set", x.set(0, 0, 1), 1);
        due("set had none", x.status(), 0);
        x.as(0, 2);
        due("copy", x.copy(0, 0, 0, 0, 1), 1);
        due("copy had none", x.status(), 0);
        x.as(0, 2);
        due("drop", x.drop(0), 1);
        due("drop had none", x.status(), 0);
        x.as(0, 2);
        due("as", x.as(0, 0), 0);
        due("as had none", x.status(), 0);
        x.as(0, 2);
        due("told", x.told(0, 1900, 7, 0, NONE), 1);
        due("told had none", x.status(), 0);
        x.as(0, 2);
        x.row(0, 0, -1);
        due("SIZE", x.status(), 4);
        x.told(0, 1900, 7, 1, NONE);
        due("PLACE", x.status(), 2);
        x.told(0, 1900, 6, 1, NONE);
        due("NULL", x.status(), 1);
    }

    private static void statusStays() {
        says("Of the latest call with a ROW, or as(), that was not BAD, STATE, FULL");
        CakeCards x = withOneCard();
        x.as(0, 2);
        x.row(0, 0, 41);
        x.set(8, 0, 0);
        x.copy(0, 0, 8, 0, 0);
        x.drop(8);
        x.as(1, 0);
        x.as(0, 6);
        x.told(4, 1900, 7, 0, NONE);
        due("after BAD calls", x.status(), 3);
        CakeCards none = new CakeCards();
        none.drop(0);
        due("STATE", none.told(0, 1900, 0, 0, NONE), STATE);
        due("after STATE", none.status(), 1);
        none.row(0, 0, 0);
        due("STATE", none.told(0, 1900, 0, 0, NONE), STATE);
        due("after STATE", none.status(), 0);
        CakeCards full = withOneCard();
        for (int i = 0; i < 11; i++) {
            full.card();
            card(full, "card 0 1900;");
        }
        full.drop(0);
        due("FULL", full.told(0, 1900, 7, 0, NONE), FULL);
        due("after FULL", full.status(), 1);
        full.row(7, 0, 11);
        due("FULL", full.told(0, 1900, 0, 0, NONE), FULL);
        due("after FULL", full.status(), 0);
        x.row(7, 2, 11);
        x.as(0, 2);
        x.set(7, 10, 100);
        x.as(0, 2);
        due("BAD by an ITEM", x.told(0, 1900, 7, 0, NONE), BAD);
        due("after BAD", x.status(), 3);
        x.feed(1, 1);
        x.kitchen();
        x.card();
        x.stain(0, 0);
        x.mark(0, 0);
        x.count(0);
        due("calls without a ROW", x.status(), 3);
    }

    public static void main(String[] args) {
        missingAtFirst();
        lanesAndSizes();
        zeroAtFirst();
        neighboursStay();
        lowestBits();
        copiesAsTheyWereAhead();
        copyPlaces();
        storesOfTwoLanes();
        drops();
        statusOfTheLatest();
        statusStays();
        end();
    }
}
