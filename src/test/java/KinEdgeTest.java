/** The boundary cases of who had it from whom: MOTHERS, TWO, TREES, SURE joins, FIRST: promises 19 to 24. */
public final class KinEdgeTest extends Checks {
    private static final int[] NO_CARDS = {-1, 12, NONE, MIN, MAX};

    /** MARKS 0 .. 7 told by one figure each. */
    private static int[] marks(String figures) {
        int[] marks = new int[11];
        for (int i = 0; i < figures.length(); i++) {
            marks[i] = figures.charAt(i) == '?' ? -1 : figures.charAt(i) - '0';
        }
        return marks;
    }

    private static CakeCards of(String... cards) {
        CakeCards x = withKitchen(PLAIN);
        for (String card : cards) {
            told(x, 1900, NONE, marks(card));
        }
        return x;
    }

    // ---- MOTHERS

    private static void leastRows() {
        says("LEAST changes (what = 0), how many such rows (1). BAD; STATE: no CARDS.");
        CakeCards none = new CakeCards();
        due("no KITCHEN", none.mothers(0), STATE);
        due("no KITCHEN", none.mothers(1), STATE);
        due("BAD ahead of STATE", none.mothers(2), BAD);
        kitchen(none, PLAIN);
        due("no CARDS", none.mothers(0), STATE);
        due("no CARDS", none.mothers(1), STATE);
        for (int what : new int[] {-1, 2, NONE, MIN, MAX}) {
            due("what " + what, none.mothers(what), BAD);
            due("what " + what, of("1").mothers(what), BAD);
        }
        CakeCards one = of("12345");
        due("one CARD", one.mothers(0), 0);
        due("one CARD", one.mothers(1), 1);
        CakeCards two = of("12345", "54321");
        due("two CARDS", two.mothers(0), 4);
        due("two CARDS", two.mothers(1), 1);
        CakeCards alike = of("1", "1", "1", "1", "1", "1", "1", "1", "1", "1", "1", "1");
        due("twelve alike", alike.mothers(0), 0);
        due("11 * 10 * .. * 1", alike.mothers(1), 39916800);
        CakeCards far = withKitchen(PLAIN);
        for (int i = 0; i < 12; i++) {
            told(far, 1900, NONE, i, i, i, i, i, i, i, i, i % 10, i, i);
        }
        // 10 and 11 have the HEAT of 0 and 1.
        due("twelve unlike", far.mothers(0), 9 * 11 + 2 * 10);
        due("9 * 8 * .. * 1 for the first ten", far.mothers(1), 362880);
    }

    private static void earlierOnes() {
        says("a row in which each CARD but the first one by YEARS (of several the least) has an earlier one (of a lesser YEAR, or of the same and a lesser number)");
        CakeCards x = withKitchen(PLAIN);
        told(x, 1902, NONE, marks("1"));
        told(x, 1901, NONE, marks("2"));
        told(x, 1901, NONE, marks("1"));
        told(x, 2000, NONE, marks("12"));
        told(x, 1800, NONE, marks("212"));
        // By YEARS: 4, 1, 2, 0, 3.
        due("the first one", x.mother(4), NONE);
        due("of a lesser YEAR alone", x.mother(1), 4);
        due("1 is nearer than 4", x.mother(2), 1);
        due("the same, of a lesser YEAR", x.mother(0), 2);
        due("0 and 2 are as near", x.mother(3), 0);
        due("changes", x.mothers(0), 2 + 1 + 0 + 1);
        due("rows", x.mothers(1), 2);
        says("of several the least");
        CakeCards y = of("1", "2", "3");
        due("of one YEAR the least number is first", y.mother(0), NONE);
        due("mother(1)", y.mother(1), 0);
        due("mother(2)", y.mother(2), 0);
        due("rows", y.mothers(1), 2);
        due("changes", y.mothers(0), 2);
        says("The least earlier CARD that can be mother of a CARD by a LEAST row; NONE: it is the first one. BAD.");
        CakeCards z = withKitchen(PLAIN);
        told(z, 1950, NONE, marks("12"));
        told(z, 1950, NONE, marks("12"));
        told(z, 1949, NONE, marks("12"));
        told(z, 1951, NONE, marks("1?"));
        told(z, 1951, NONE, marks("34"));
        told(z, 1951, NONE, marks("33"));
        due("the least number, not YEAR", z.mother(3), 0);
        due("2 is the first one", z.mother(2), NONE);
        due("mother(0)", z.mother(0), 2);
        due("0 ahead of 2", z.mother(1), 0);
        due("3 is STAINED: one change", z.mother(4), 3);
        due("mother(5)", z.mother(5), 3);
        due("changes: 4 and 5 from 3, or 5 from 4", z.mothers(0), 2);
        due("rows: 1 of two, 3 of three, 5 of two", z.mothers(1), 2 * 3 * 2);
        due("a row that was told counts for nothing", z.of(3, 2), NONE);
        for (int card : NO_CARDS) {
            due("mother(" + card + ")", z.mother(card), BAD);
        }
        due("mother(6)", z.mother(6), BAD);
        due("no CARDS", new CakeCards().mother(0), BAD);
    }

    // ---- TWO

    private static void dueTwo(CakeCards x, int card, long cost, long lesser, long greater) {
        due("two(" + card + ", 0)", x.two(card, 0), cost);
        due("two(" + card + ", 1)", x.two(card, 1), lesser);
        due("two(" + card + ", 2)", x.two(card, 2), greater);
    }

    private static void pairs() {
        says("the least of all pairs, the first by the lesser, then the greater; NONE: it has fewer than two.");
        CakeCards x = of("1", "1");
        dueTwo(x, 0, NONE, NONE, NONE);
        dueTwo(x, 1, NONE, NONE, NONE);
        told(x, 1901, NONE, marks("1"));
        dueTwo(x, 2, 1, 0, 1);
        told(x, 1901, NONE, marks("1"));
        dueTwo(x, 3, 1, 0, 1);
        CakeCards y = of("1111", "2211", "1122", "2222", "1221", "2112");
        dueTwo(y, 2, 1 + 2, 0, 1);
        dueTwo(y, 3, 1, 1, 2);
        dueTwo(y, 4, 1, 0, 3);
        dueTwo(y, 5, 1, 0, 3);
        CakeCards all = of("1234", "5678", "1239", "1239", "9999", "5679");
        dueTwo(all, 5, 1, 1, 2);
        says("a CARD that had two earlier ones");
        CakeCards z = withKitchen(PLAIN);
        told(z, 1901, NONE, marks("12"));
        told(z, 1900, NONE, marks("13"));
        told(z, 1902, NONE, marks("42"));
        told(z, 1901, NONE, marks("43"));
        told(z, 1903, NONE, marks("43"));
        // By YEARS: 1, 0, 3, 2, 4.
        dueTwo(z, 1, NONE, NONE, NONE);
        dueTwo(z, 0, NONE, NONE, NONE);
        dueTwo(z, 3, 2, 0, 1);
        dueTwo(z, 2, 1, 0, 3);
        dueTwo(z, 4, 1, 0, 3);
        says("MARKS (known in it) that neither has as it does (known), and 1");
        CakeCards s = of("?", "?", "?", "1", "2");
        dueTwo(s, 2, 1, 0, 1);
        dueTwo(s, 3, 2, 0, 1);
        dueTwo(s, 4, 2, 0, 1);
        CakeCards far = of("11111111", "22222222", "33333333");
        due("eight MARKS", far.two(2, 0), 9);
        CakeCards most = withKitchen(PLAIN);
        told(most, 1900, NONE, all(1));
        told(most, 1900, NONE, all(2));
        told(most, 1900, NONE, all(3));
        dueTwo(most, 2, 12, 0, 1);
        says("TWO: what it costs (what = 0), the lesser (1), the greater one (2); NONE. BAD.");
        for (int what : new int[] {-1, 3, NONE, MIN, MAX}) {
            due("what " + what, s.two(2, what), BAD);
            due("BAD ahead of NONE", s.two(0, what), BAD);
        }
        for (int card : NO_CARDS) {
            due("two(" + card + ")", s.two(card, 0), BAD);
        }
        due("two(5)", s.two(5, 0), BAD);
    }

    // ---- TREES

    private static void dueTrees(CakeCards x, int set, long changes, long least, long all) {
        due("trees(" + set + ", 0)", x.trees(set, 0), changes);
        due("trees(" + set + ", 1)", x.trees(set, 1), least);
        due("trees(" + set + ", 2)", x.trees(set, 2), all);
    }

    private static void dueSure(CakeCards x, int set) {
        due("sure(" + set + ", -1)", x.sure(set, -1), 0);
        for (int i : new int[] {0, 1, 4, 63, 64, MAX}) {
            due("sure(" + set + ", " + i + ")", x.sure(set, i), NONE);
        }
    }

    private static void dueFirst(CakeCards x, int set, int mark, int... values) {
        due("first(" + set + ", " + mark + ", -1)", x.first(set, mark, -1), values.length);
        for (int i = 0; i < 8; i++) {
            due("first(" + set + ", " + mark + ", " + i + ")", x.first(set, mark, i), i < values.length ? values[i] : NONE);
        }
        due("first far", x.first(set, mark, MAX), NONE);
    }

    private static void sizes() {
        says("TREES of 2 to 6 CARDS: each CARD at an end, each fork of two; all such.");
        CakeCards x = of("1", "1", "1", "1", "1", "1", "1", "1", "1", "1", "1", "1");
        long[] all = {0, 0, 1, 3, 15, 105, 945};
        for (int n = 2; n <= 6; n++) {
            dueTrees(x, (1 << n) - 1, 0, all[n], all[n]);
            dueTrees(x, ((1 << n) - 1) << (12 - n), 0, all[n], all[n]);
            dueSure(x, (1 << n) - 1);
            dueFirst(x, (1 << n) - 1, 0, 1);
        }
        dueTrees(x, 1 | 1 << 11, 0, 1, 1);
        says("LEAST TREES of a set of CARDS: changes (what = 0), how many (1), all TREES (2). BAD: also not 2 to 6.");
        for (int set : new int[] {0, 1, 2, 2048, 127, 4095, 127 << 5, 4096, 4097, 4099, 1 << 30, (1 << 30) | 3, -1, -2, MIN, MIN | 3, MAX, NONE}) {
            due("trees(" + set + ", 0)", x.trees(set, 0), BAD);
            due("trees(" + set + ", 2)", x.trees(set, 2), BAD);
            due("sure(" + set + ", -1)", x.sure(set, -1), BAD);
            due("first(" + set + ", 0, -1)", x.first(set, 0, -1), BAD);
        }
        for (int what : new int[] {-1, 3, NONE, MIN, MAX}) {
            due("what " + what, x.trees(3, what), BAD);
        }
        CakeCards few = of("1", "1");
        for (int set : new int[] {4, 5, 6, 7, 8, 1 << 31 | 3}) {
            due("a CARD that is not there: " + set, few.trees(set, 0), BAD);
            due("a CARD that is not there: " + set, few.sure(set, 0), BAD);
            due("a CARD that is not there: " + set, few.first(set, 0, 0), BAD);
        }
        due("no CARDS", new CakeCards().trees(3, 0), BAD);
        due("no CARDS", withKitchen(PLAIN).trees(3, 0), BAD);
    }

    private static void sureAndFirstNumbers() {
        CakeCards x = of("1", "2", "3");
        says("SURE joins of a set of CARDS: how many (i = -1), the i-th, by numbers; NONE: not so many. BAD: i below -1, too.");
        for (int i : new int[] {-2, -3, NONE, MIN}) {
            due("sure(7, " + i + ")", x.sure(7, i), BAD);
        }
        says("FIRST of a set of CARDS, a MARK: how many values it MAY have (i = -1; 0: known in none), the i-th, rising; NONE: not so many. BAD: i below -1, too.");
        for (int i : new int[] {-2, -3, NONE, MIN}) {
            due("first(7, 0, " + i + ")", x.first(7, 0, i), BAD);
        }
        for (int mark : new int[] {-1, 11, NONE, MIN, MAX}) {
            due("first(7, " + mark + ", -1)", x.first(7, mark, -1), BAD);
        }
        dueFirst(x, 7, 10, 0);
    }

    private static void changes() {
        says("the fewest, over all MARKS of forks, of MARKS that change along a branch (STAINED ones are free)");
        dueTrees(of("1", "1"), 3, 0, 1, 1);
        dueTrees(of("1", "2"), 3, 1, 1, 1);
        dueTrees(of("1", "?"), 3, 0, 1, 1);
        dueTrees(of("?", "?"), 3, 0, 1, 1);
        dueTrees(of("12345678", "23456789"), 3, 8, 1, 1);
        CakeCards most = withKitchen(PLAIN);
        for (int i = 0; i < 6; i++) {
            told(most, 1900, NONE, all(i));
        }
        dueTrees(most, 63, 5 * 11, 945, 945);
        dueTrees(most, 3, 11, 1, 1);
        dueTrees(of("1", "2", "3"), 7, 2, 3, 3);
        // One of three trees without a top parts 0, 1 from 2, 3; it has five branches for a top.
        dueTrees(of("1", "1", "2", "2"), 15, 1, 5, 15);
        dueTrees(of("1", "2", "1", "2"), 15, 1, 5, 15);
        dueTrees(of("1", "2", "2", "1"), 15, 1, 5, 15);
        dueTrees(of("11", "12", "21", "22"), 15, 3, 10, 15);
        dueTrees(of("1", "1", "2", "?"), 15, 1, 15, 15);
        dueTrees(of("1", "?", "2", "?"), 15, 1, 15, 15);
        dueTrees(of("1?", "1?", "2?", "2?"), 15, 1, 5, 15);
        // Seven trees without a top hold three pairs apart (one star, six rows), each has nine branches for a top.
        dueTrees(of("1", "1", "2", "2", "3", "3"), 63, 2, 7 * 9, 945);
        CakeCards x = of("1", "9", "1", "9", "2", "9", "2");
        dueTrees(x, 1 | 4 | 16 | 64, 1, 5, 15);
        x.stain(6, 0);
        dueTrees(x, 1 | 4 | 16 | 64, 1, 15, 15);
        x.stain(4, 0);
        dueTrees(x, 1 | 4 | 16 | 64, 0, 15, 15);
        dueTrees(x, 2 | 8 | 32, 0, 3, 3);
    }

    private static void sureJoins() {
        says("sets of two CARDS or more, not all, that are all there is above some fork in each LEAST TREE");
        // A least tree stays one wherever its top stands: no join outlasts a top on one of its own branches.
        dueSure(of("1", "2"), 3);
        dueSure(of("1", "1", "2"), 7);
        dueSure(of("11", "11", "22", "22"), 15);
        dueSure(of("1111", "1111", "2222", "2222", "3333"), 31);
        dueSure(of("1111", "1112", "2221", "2222", "3333", "3334"), 63);
    }

    private static void mayAndMust() {
        says("the values (of those that these CARDS have known) by which some LEAST TREE has no more changes; MUST: there is just one");
        dueFirst(of("?", "?"), 3, 0);
        dueFirst(of("?", "?", "?", "?", "?", "?"), 63, 0);
        dueFirst(of("1", "?"), 3, 0, 1);
        dueFirst(of("0", "?"), 3, 0, 0);
        dueFirst(of("1", "1"), 3, 0, 1);
        dueFirst(of("2", "1"), 3, 0, 1, 2);
        dueFirst(of("3", "2", "1"), 7, 0, 1, 2, 3);
        dueFirst(of("6", "5", "4", "3", "2", "1"), 63, 0, 1, 2, 3, 4, 5, 6);
        dueFirst(of("6", "5", "4", "?", "2", "1"), 63, 0, 1, 2, 4, 5, 6);
        // Any end may stand beside the top, so what it has may be the first, too.
        dueFirst(of("1", "1", "2"), 7, 0, 1, 2);
        dueFirst(of("1", "1", "1", "1", "1", "2"), 63, 0, 1, 2);
        CakeCards x = withKitchen(PLAIN);
        told(x, 1900, NONE, marks("11"));
        told(x, 1900, NONE, marks("22"));
        told(x, 1900, NONE, marks("3?"));
        dueFirst(x, 3, 0, 1, 2);
        dueFirst(x, 7, 1, 1, 2);
        dueFirst(x, 6, 1, 2);
        dueFirst(x, 6, 0, 2, 3);
        dueFirst(x, 7, 2, 0);
        CakeCards far = withKitchen(PLAIN);
        told(far, 1900, NONE, 9999, 5);
        told(far, 1900, NONE, 0, 5);
        told(far, 1900, NONE, 10, 5);
        dueFirst(far, 7, 0, 0, 10, 9999);
        dueFirst(far, 3, 0, 0, 9999);
        dueFirst(far, 7, 1, 5);
        far.stain(1, 0);
        dueFirst(far, 7, 0, 10, 9999);
        dueFirst(far, 3, 0, 9999);
    }

    private static void anew() {
        says("LEAST TREES of a set of CARDS");
        // Asked again after each thing that can change the CARDS: the answers are those of what is there now.
        CakeCards x = of("1", "1", "2", "2");
        x.image(0);
        dueTrees(x, 15, 1, 5, 15);
        x.stain(0, 0);
        dueTrees(x, 15, 1, 15, 15);
        dueFirst(x, 15, 0, 1, 2);
        x.mend(0, 1, 2, 3);
        due("mended", x.mark(0, 0), 2);
        dueTrees(x, 15, 1, 15, 15);
        x.restore(0);
        dueTrees(x, 15, 1, 5, 15);
        kitchen(x, PLAIN);
        due("no CARDS", x.trees(15, 0), BAD);
        told(x, 1900, NONE, marks("3"));
        told(x, 1900, NONE, marks("3"));
        told(x, 1900, NONE, marks("4"));
        told(x, 1900, NONE, marks("4"));
        // The same TREES as before, by other values.
        dueFirst(x, 15, 0, 3, 4);
        dueTrees(x, 15, 1, 5, 15);
        dueTrees(x, 7, 1, 3, 3);
        dueFirst(x, 3, 0, 3);
        dueFirst(x, 12, 0, 4);
    }

    private static CakeCards twelve() {
        CakeCards x = withKitchen(PLAIN);
        for (int i = 0; i < 9; i++) {
            told(x, 1900, NONE, i, i / 2, i / 3, i % 2, i % 3, 7 - i % 4, i * i, 5, i, 9 - i, i < 5 ? i : -1);
        }
        told(x, 1900, NONE, all(-1));
        told(x, 1900, NONE, all(-1));
        told(x, 1900, NONE, 100, 100, 100, 100, 100, 100, 100, 100, 9, 99, 99);
        return x;
    }

    /** One that is asked of many sets answers of each as one does that is asked of this one alone. */
    private static void oneAfterTheOther() {
        says("LEAST TREES of a set of CARDS: changes (what = 0), how many (1), all TREES (2).");
        int[] sets = {3, 6, 3 << 9, 3, 1 | 1 << 9, 63, 63 << 3, 63 << 6, 7 << 6, 7 << 9, 15, 15 << 8, 21, 42, 63 << 5};
        CakeCards x = twelve();
        for (int set : sets) {
            CakeCards fresh = twelve();
            for (int what = 0; what < 3; what++) {
                due("trees(" + set + ", " + what + ")", x.trees(set, what), fresh.trees(set, what));
            }
            for (int mark = 0; mark < 11; mark += 10) {
                CakeCards own = twelve();
                for (int i = -1; i < 6; i++) {
                    due("first(" + set + ", " + mark + ", " + i + ")", x.first(set, mark, i), own.first(set, mark, i));
                }
            }
        }
        CakeCards y = withKitchen(PLAIN);
        told(y, 1900, NONE, all(1));
        told(y, 1900, NONE, all(2));
        told(y, 1900, NONE, all(-1));
        told(y, 1900, NONE, all(-1));
        dueTrees(y, 3, 11, 1, 1);
        dueTrees(y, 12, 0, 1, 1);
        dueFirst(y, 12, 0);
        dueFirst(y, 3, 10, 1, 2);
        dueFirst(y, 12, 10);
        dueFirst(y, 9, 10, 1);
        dueFirst(y, 6, 10, 2);
        for (int mark = 0; mark < 11; mark++) {
            CakeCards z = withKitchen(PLAIN);
            for (int value : new int[] {1, 2, -1, -1}) {
                int[] marks = all(-1);
                marks[mark] = value;
                told(z, 1900, NONE, marks);
            }
            dueTrees(z, 3, 1, 1, 1);
            dueTrees(z, 12, 0, 1, 1);
            dueTrees(z, 15, 1, 15, 15);
        }
    }

    public static void main(String[] args) {
        leastRows();
        earlierOnes();
        pairs();
        sizes();
        sureAndFirstNumbers();
        changes();
        sureJoins();
        mayAndMust();
        anew();
        oneAfterTheOther();
        end();
    }
}
