/** The boundary cases of CARDS that are told, copied, read, stained, held against one another, baked: promises 10 to 18. */
public final class CardEdgeTest extends Checks {
    private static final int[] BEYOND_LANDS = {-1, 4, NONE, MIN, MAX};
    private static final int[] BEYOND_YEARS = {1799, 2001, 0, -1, NONE, MIN, MAX};
    private static final int[] BEYOND_THINGS = {-1, 8, NONE, MIN, MAX};
    private static final int[] BEYOND_MARKS = {-1, 11, NONE, MIN, MAX};
    private static final int[] MOST = {9999, 9999, 9999, 9999, 9999, 9999, 9999, 9999, 9, 99, 99};

    // ---- told

    private static void items() {
        says("11 ITEMS of a ROW from i on as MARKS (0 to 9999, HEAT to 9, LONG and BEAT to 99; -1: STAINED)");
        for (int mark = 0; mark < 11; mark++) {
            CakeCards x = withKitchen(PLAIN);
            int[] fine = {0, 1, MOST[mark] - 1, MOST[mark], -1};
            for (int i = 0; i < fine.length; i++) {
                due("ITEM " + fine[i], told(x, 1900, NONE, one(mark, fine[i])), i);
                dueMarks(x, i, one(mark, fine[i] == -1 ? NONE : fine[i]));
            }
            for (int off : new int[] {-2, MOST[mark] + 1, NONE, -10000, MIN, MAX}) {
                due("ITEM " + off, told(x, 1900, NONE, one(mark, off)), BAD);
            }
            due("no CARD came of it", x.count(3), 5);
        }
        CakeCards x = withKitchen(PLAIN);
        due("the most", told(x, 1900, NONE, MOST), 0);
        dueMarks(x, 0, MOST);
        due("all STAINED", told(x, 1900, NONE, all(-1)), 1);
        dueMarks(x, 1, all(NONE));
        due("all 0", told(x, 1900, NONE, all(0)), 2);
        dueMarks(x, 2, all(0));
        due("status()", x.status(), 0);
        x.row(0, 0, 11);
        x.set(0, 0, 255);
        x.set(0, 10, 99);
        due("bytes", x.told(0, 1900, 0, 0, NONE), 3);
        dueMarks(x, 3, NONE, 0, 0, 0, 0, 0, 0, 0, 0, 0, 99);
        x.row(0, 1, 11);
        x.set(0, 0, 65535);
        x.set(0, 7, 9999);
        due("shorts", x.told(0, 1900, 0, 0, NONE), 4);
        dueMarks(x, 4, NONE, 0, 0, 0, 0, 0, 0, 9999);
        x.set(0, 7, 0);
        dueMarks(x, 4, NONE, 0, 0, 0, 0, 0, 0, 9999);
    }

    private static void places() {
        says("A CARD of a LAND, a YEAR, with 11 ITEMS of a ROW from i on as MARKS");
        for (int n : new int[] {11, 12, 22, 40}) {
            CakeCards x = withKitchen(PLAIN);
            x.row(0, 2, n);
            for (int i = 0; i < n; i++) {
                x.set(0, i, i % 10);
            }
            for (int i : new int[] {0, (n - 11) / 2, n - 11}) {
                long number = x.count(3);
                due("told from " + i + " of " + n, x.told(0, 1900, 0, i, NONE), number);
                for (int mark = 0; mark < 11; mark++) {
                    due("MARK " + mark, x.mark((int) number, mark), (i + mark) % 10);
                }
            }
            for (int i : new int[] {-1, n - 10, n, 40, MIN, MAX, MAX - 10, MIN + 10}) {
                due("told from " + i + " of " + n, x.told(0, 1900, 0, i, NONE), PLACE);
                due("status()", x.status(), 2);
            }
        }
        CakeCards x = withKitchen(PLAIN);
        for (int n : new int[] {0, 1, 10}) {
            x.row(0, 0, n);
            due("told of " + n, x.told(0, 1900, 0, 0, NONE), PLACE);
        }
        due("no CARD came of it", x.count(3), 0);
    }

    private static void landsAndYears() {
        says("BAD: LAND, YEAR, ROW, mother; STATE: no KITCHEN; FULL; NULL; PLACE; then BAD: an ITEM.");
        CakeCards x = withKitchen(PLAIN);
        x.row(7, 0, 11);
        int card = 0;
        for (int land = 0; land < 4; land++) {
            due("LAND " + land, x.told(land, 1900, 7, 0, NONE), card);
            due("its LAND", x.of(card, 0), land);
            card++;
        }
        for (int year : new int[] {1800, 1801, 1999, 2000}) {
            due("YEAR " + year, x.told(0, year, 7, 0, NONE), card);
            due("its YEAR", x.of(card, 1), year);
            card++;
        }
        for (int land : BEYOND_LANDS) {
            due("LAND " + land, x.told(land, 1900, 7, 0, NONE), BAD);
        }
        for (int year : BEYOND_YEARS) {
            due("YEAR " + year, x.told(0, year, 7, 0, NONE), BAD);
        }
        for (int row : new int[] {-1, 8, NONE, MIN, MAX}) {
            due("ROW " + row, x.told(0, 1900, row, 0, NONE), BAD);
        }
        due("count(3)", x.count(3), card);
    }

    private static void mothersTold() {
        says("a mother (NONE; of no greater YEAR)");
        CakeCards x = withKitchen(PLAIN);
        for (int mother : new int[] {0, 1, -1, -2, NONE + 1, NONE - 1, MIN, MAX}) {
            due("no CARDS, mother " + mother, told(x, 1900, mother), BAD);
        }
        due("none", told(x, 1900, NONE), 0);
        due("of(0, 2)", x.of(0, 2), NONE);
        due("of the same YEAR", told(x, 1900, 0), 1);
        due("of(1, 2)", x.of(1, 2), 0);
        due("of a lesser YEAR", told(x, 1901, 0), 2);
        due("of a lesser YEAR", told(x, 2000, 2), 3);
        due("of(3, 2)", x.of(3, 2), 2);
        due("of a greater YEAR", told(x, 1899, 0), BAD);
        due("of a greater YEAR", told(x, 1900, 2), BAD);
        due("of a greater YEAR", told(x, 1999, 3), BAD);
        due("itself", told(x, 2000, 4), BAD);
        due("no such CARD", told(x, 2000, 5), BAD);
        due("-1", told(x, 2000, -1), BAD);
        due("none of a YEAR ahead of all", told(x, 1800, NONE), 4);
    }

    private static void orderOfTold() {
        says("BAD: LAND, YEAR, ROW, mother; STATE: no KITCHEN; FULL; NULL; PLACE; then BAD: an ITEM.");
        CakeCards x = new CakeCards();
        due("BAD LAND ahead of STATE", x.told(4, 1900, 0, -1, NONE), BAD);
        due("BAD YEAR ahead of STATE", x.told(0, 1799, 0, -1, NONE), BAD);
        due("BAD ROW ahead of STATE", x.told(0, 1900, 8, -1, NONE), BAD);
        due("BAD mother ahead of STATE", x.told(0, 1900, 0, -1, 0), BAD);
        due("STATE ahead of NULL", x.told(0, 1900, 0, -1, NONE), STATE);
        x.row(0, 0, 11);
        due("STATE ahead of PLACE", x.told(0, 1900, 0, -1, NONE), STATE);
        x.set(0, 0, -2);
        due("STATE ahead of an ITEM", x.told(0, 1900, 0, 0, NONE), STATE);
        due("STATE", x.told(3, 2000, 7, MAX, NONE), STATE);
        kitchen(x, PLAIN);
        due("NULL ahead of PLACE", x.told(0, 1900, 1, -1, NONE), NULL);
        due("status()", x.status(), 1);
        due("PLACE ahead of an ITEM", x.told(0, 1900, 0, 1, NONE), PLACE);
        due("status()", x.status(), 2);
        due("BAD, an ITEM", x.told(0, 1900, 0, 0, NONE), BAD);
        due("status()", x.status(), 2);
        for (int i = 0; i < 12; i++) {
            due("told", told(x, 1900, NONE), i);
        }
        due("FULL ahead of NULL", x.told(0, 1900, 1, -1, NONE), FULL);
        due("FULL ahead of PLACE", x.told(0, 1900, 0, -1, NONE), FULL);
        due("FULL ahead of an ITEM", x.told(0, 1900, 0, 0, NONE), FULL);
        due("FULL", x.told(0, 1900, 7, 0, 11), FULL);
        due("BAD LAND ahead of FULL", x.told(-1, 1900, 7, 0, NONE), BAD);
        due("BAD mother ahead of FULL", x.told(0, 1900, 7, 0, 12), BAD);
        due("BAD YEAR ahead of FULL", x.told(0, 1899, 7, 0, 0), BAD);
        due("count(3)", x.count(3), 12);
    }

    // ---- copied

    private static CakeCards withOne(int... marks) {
        CakeCards x = withKitchen(PLAIN);
        told(x, 1900, NONE, marks);
        return x;
    }

    private static void dueCopy(int law, int a, int b, int[] was, int... now) {
        CakeCards x = withOne(was);
        due("copied by " + law, x.copied(0, 2, 1950, law, a, b), 1);
        int[] first = was.clone();
        for (int i = 0; i < first.length; i++) {
            first[i] = first[i] == -1 ? NONE : first[i];
        }
        dueMarks(x, 0, first);
        dueMarks(x, 1, now);
        due("its LAND", x.of(1, 0), 2);
        due("its YEAR", x.of(1, 1), 1950);
        due("its mother", x.of(1, 2), 0);
        due("a daughter", x.of(0, 4), 1);
        due("status()", x.status(), 0);
    }

    private static void laws() {
        int[] was = {1, 2, 3, 40, 500, 4999, 7, 8, 5, 40, 30};
        says("0 as it is; 1 a THING lost; 2 its GRAINS doubled; 3 its GRAINS by 2");
        dueCopy(0, 0, 7, was, was);
        dueCopy(1, 0, 7, was, 0, 2, 3, 40, 500, 4999, 7, 8, 5, 40, 30);
        dueCopy(1, 7, 7, was, 1, 2, 3, 40, 500, 4999, 7, 0, 5, 40, 30);
        dueCopy(2, 7, 0, was, 1, 2, 3, 40, 500, 4999, 7, 16, 5, 40, 30);
        dueCopy(2, 5, 5, was, 1, 2, 3, 40, 500, 9998, 7, 8, 5, 40, 30);
        dueCopy(3, 0, 5, was, 0, 2, 3, 40, 500, 4999, 7, 8, 5, 40, 30);
        dueCopy(3, 2, 5, was, 1, 2, 1, 40, 500, 4999, 7, 8, 5, 40, 30);
        dueCopy(3, 5, 2, was, 1, 2, 3, 40, 500, 2499, 7, 8, 5, 40, 30);
        says("4 swapped: the GRAINS of THING a come to those of THING b (so many more), a has 0 then");
        dueCopy(4, 3, 4, was, 1, 2, 3, 0, 540, 4999, 7, 8, 5, 40, 30);
        dueCopy(4, 7, 0, was, 9, 2, 3, 40, 500, 4999, 7, 0, 5, 40, 30);
        says("5 HEAT 1 more (9 at most); 6 LONG 5 less (0 at least).");
        dueCopy(5, 0, 0, was, 1, 2, 3, 40, 500, 4999, 7, 8, 6, 40, 30);
        dueCopy(6, 0, 0, was, 1, 2, 3, 40, 500, 4999, 7, 8, 5, 35, 30);
        for (int heat = 0; heat <= 9; heat++) {
            dueCopy(5, 7, 7, one(8, heat), one(8, Math.min(9, heat + 1)));
        }
        for (int minutes : new int[] {0, 1, 4, 5, 6, 10, 98, 99}) {
            dueCopy(6, 7, 7, one(9, minutes), one(9, Math.max(0, minutes - 5)));
        }
        says("All that is divided is cut towards 0");
        for (int grains : new int[] {0, 1, 2, 3, 9998, 9999}) {
            dueCopy(3, 4, 4, one(4, grains), one(4, grains / 2));
        }
    }

    private static void stainedCopies() {
        says("What is STAINED stays so, but a lost one is 0; of 4 b is STAINED, if one of both was, and a is 0 in any case.");
        int[] was = all(-1);
        int[] now = all(NONE);
        dueCopy(0, 0, 0, was, now);
        dueCopy(2, 3, 3, was, now);
        dueCopy(3, 3, 3, was, now);
        dueCopy(5, 3, 3, was, now);
        dueCopy(6, 3, 3, was, now);
        int[] lost = all(NONE);
        lost[3] = 0;
        dueCopy(1, 3, 3, was, lost);
        dueCopy(4, 3, 4, was, lost);
        dueCopy(4, 0, 7, new int[] {-1, 0, 0, 0, 0, 0, 0, 9999}, 0, 0, 0, 0, 0, 0, 0, NONE);
        dueCopy(4, 0, 7, new int[] {9999, 0, 0, 0, 0, 0, 0, -1}, 0, 0, 0, 0, 0, 0, 0, NONE);
        dueCopy(4, 0, 7, new int[] {0, 0, 0, 0, 0, 0, 0, -1}, 0, 0, 0, 0, 0, 0, 0, NONE);
        dueCopy(4, 0, 7, new int[] {0, 0, 0, 0, 0, 0, 0, 5}, 0, 0, 0, 0, 0, 0, 0, 5);
        dueCopy(2, 0, 0, new int[] {5, -1}, 10, NONE);
        dueCopy(2, 1, 0, new int[] {5, -1}, 5, NONE);
        dueCopy(3, 0, 0, new int[] {5, -1}, 2, NONE);
        dueCopy(3, 1, 0, new int[] {5, -1}, 5, NONE);
        int[] heat = {0, 0, 0, 0, 0, 0, 0, 0, -1, 40, 30};
        int[] minutes = {0, 0, 0, 0, 0, 0, 0, 0, 5, -1, 30};
        int[] beat = {0, 0, 0, 0, 0, 0, 0, 0, 5, 40, -1};
        dueCopy(5, 0, 0, heat, 0, 0, 0, 0, 0, 0, 0, 0, NONE, 40, 30);
        dueCopy(5, 0, 0, minutes, 0, 0, 0, 0, 0, 0, 0, 0, 6, NONE, 30);
        dueCopy(5, 0, 0, beat, 0, 0, 0, 0, 0, 0, 0, 0, 6, 40, NONE);
        dueCopy(6, 0, 0, heat, 0, 0, 0, 0, 0, 0, 0, 0, NONE, 35, 30);
        dueCopy(6, 0, 0, minutes, 0, 0, 0, 0, 0, 0, 0, 0, 5, NONE, 30);
        dueCopy(6, 0, 0, beat, 0, 0, 0, 0, 0, 0, 0, 0, 5, 35, NONE);
    }

    private static void tooManyGrains() {
        says("STATE: GRAINS would be above 9999; FULL.");
        CakeCards x = withOne(4999, 5000, 9999, 0, 1, 9998, 5001, 4998);
        due("9998", x.copied(0, 0, 1900, 2, 0, 0), 1);
        due("10000", x.copied(0, 0, 1900, 2, 1, 0), STATE);
        due("10002", x.copied(0, 0, 1900, 2, 6, 0), STATE);
        due("19998", x.copied(0, 0, 1900, 2, 2, 0), STATE);
        due("9999 of 0 and 9999", x.copied(0, 0, 1900, 4, 3, 2), 2);
        due("9999 of 9999 and 0", x.copied(0, 0, 1900, 4, 2, 3), 3);
        dueMarks(x, 3, 4999, 5000, 0, 9999, 1, 9998, 5001, 4998);
        due("9999 of 9998 and 1", x.copied(0, 0, 1900, 4, 5, 4), 4);
        due("9999 of 5001 and 4998", x.copied(0, 0, 1900, 4, 6, 7), 5);
        due("10000 of 9999 and 1", x.copied(0, 0, 1900, 4, 2, 4), STATE);
        due("10000 of 1 and 9999", x.copied(0, 0, 1900, 4, 4, 2), STATE);
        due("10000 of 4999 and 5001", x.copied(0, 0, 1900, 4, 0, 6), STATE);
        due("the laws that need none", x.copied(0, 0, 1900, 5, 2, 2), 6);
        due("the first still", x.mark(0, 2), 9999);
        for (int i = 7; i < 12; i++) {
            due("copied", x.copied(0, 0, 1900, 0, 0, 0), i);
        }
        due("STATE ahead of FULL", x.copied(0, 0, 1900, 2, 2, 0), STATE);
        due("STATE ahead of FULL", x.copied(0, 0, 1900, 4, 2, 4), STATE);
        due("FULL", x.copied(0, 0, 1900, 2, 0, 0), FULL);
        due("FULL", x.copied(11, 3, 2000, 6, 7, 7), FULL);
        due("BAD ahead of STATE", x.copied(0, 4, 1900, 2, 2, 0), BAD);
        due("BAD ahead of FULL", x.copied(0, 0, 1900, 7, 0, 0), BAD);
        due("BAD ahead of FULL", x.copied(0, 0, 1900, 4, 0, 0), BAD);
        due("no FINDING", x.status(), 0);
        due("count(3)", x.count(3), 12);
    }

    private static void numbersOfCopied() {
        says("COPIED by a LAW (0 to 6; a, b THINGS as the LAW needs, of 4 unlike ones): its number. BAD: also a, b below 0 or above 7");
        CakeCards x = withOne(1, 2, 3);
        due("no such CARD", x.copied(1, 0, 1900, 0, 0, 0), BAD);
        for (int card : new int[] {-1, 12, NONE, MIN, MAX}) {
            due("CARD " + card, x.copied(card, 0, 1900, 0, 0, 0), BAD);
        }
        for (int land : BEYOND_LANDS) {
            due("LAND " + land, x.copied(0, land, 1900, 0, 0, 0), BAD);
        }
        for (int year : BEYOND_YEARS) {
            due("YEAR " + year, x.copied(0, 0, year, 0, 0, 0), BAD);
        }
        for (int law : new int[] {-1, 7, NONE, MIN, MAX}) {
            due("LAW " + law, x.copied(0, 0, 1900, law, 0, 0), BAD);
        }
        for (int law = 0; law <= 6; law++) {
            for (int thing : BEYOND_THINGS) {
                due("a " + thing + " by " + law, x.copied(0, 0, 1900, law, thing, 0), BAD);
                due("b " + thing + " by " + law, x.copied(0, 0, 1900, law, 0, thing), BAD);
            }
        }
        for (int thing = 0; thing < 8; thing++) {
            due("swapped with itself", x.copied(0, 0, 1900, 4, thing, thing), BAD);
        }
        due("none came of it", x.count(3), 1);
        says("in a LAND, a YEAR (no earlier), by a LAW");
        due("earlier", x.copied(0, 0, 1899, 0, 0, 0), BAD);
        due("the same", x.copied(0, 3, 1900, 0, 7, 7), 1);
        due("2000", x.copied(1, 0, 2000, 0, 7, 7), 2);
        due("earlier than its own mother's", x.copied(2, 0, 1999, 0, 7, 7), BAD);
        due("2000 of 2000", x.copied(2, 0, 2000, 0, 0, 7), 3);
        due("of(3, 2)", x.of(3, 2), 2);
        due("no CARDS at all", new CakeCards().copied(0, 0, 1900, 0, 0, 0), BAD);
        due("no CARDS yet", withKitchen(PLAIN).copied(0, 0, 1900, 0, 0, 0), BAD);
    }

    // ---- read, stained, measured

    private static void marksAndStains() {
        says("A MARK of a CARD (NONE: STAINED). BAD.");
        CakeCards x = withOne(MOST);
        told(x, 1901, 0, all(-1));
        for (int mark : BEYOND_MARKS) {
            due("mark(0, " + mark + ")", x.mark(0, mark), BAD);
            due("stain(0, " + mark + ")", x.stain(0, mark), BAD);
        }
        for (int card : new int[] {-1, 2, 12, NONE, MIN, MAX}) {
            due("mark(" + card + ", 0)", x.mark(card, 0), BAD);
            due("stain(" + card + ", 0)", x.stain(card, 0), BAD);
            for (int what = 0; what < 5; what++) {
                due("of(" + card + ", " + what + ")", x.of(card, what), BAD);
            }
        }
        says("A MARK is STAINED from now on (1), or was already (0). BAD.");
        for (int mark = 0; mark < 11; mark++) {
            due("stained so far", x.of(0, 3), mark);
            due("mark(0, " + mark + ")", x.mark(0, mark), MOST[mark]);
            due("stain(0, " + mark + ")", x.stain(0, mark), 1);
            due("mark(0, " + mark + ")", x.mark(0, mark), NONE);
            due("stain again", x.stain(0, mark), 0);
            due("stain one that was told so", x.stain(1, mark), 0);
        }
        due("all of it", x.of(0, 3), 11);
        due("all of the other", x.of(1, 3), 11);
        due("in all", x.count(4), 22);
        due("a 0 is no stain", told(x, 1900, NONE), 2);
        due("stain of a 0", x.stain(2, 0), 1);
        due("of(2, 3)", x.of(2, 3), 1);
    }

    private static void whatOf() {
        says("Of a CARD: 0 LAND, 1 YEAR, 2 mother (NONE), 3 how many MARKS are STAINED, 4 how many CARDS have it as mother. BAD.");
        CakeCards x = withKitchen(PLAIN);
        x.row(0, 0, 11);
        due("told", x.told(3, 2000, 0, 0, NONE), 0);
        for (int i = 1; i < 12; i++) {
            due("told", x.told(0, 2000, 0, 0, i < 11 ? 0 : 10), i);
        }
        int[] first = {3, 2000, NONE, 0, 10};
        int[] last = {0, 2000, 10, 0, 0};
        for (int what = 0; what < 5; what++) {
            due("of(0, " + what + ")", x.of(0, what), first[what]);
            due("of(11, " + what + ")", x.of(11, what), last[what]);
        }
        due("of(10, 4)", x.of(10, 4), 1);
        for (int what : new int[] {-1, 5, NONE, MIN, MAX}) {
            due("of(0, " + what + ")", x.of(0, what), BAD);
        }
    }

    private static void grainsByYears() {
        says("of the latest YEAR told that is no later; 1 without any");
        CakeCards x = withKitchen("measure 2 1 1900 7;measure 2 1 1800 5;measure 2 1 2000 99;measure 2 1 1899 6;" + PLAIN);
        int[][] due = {{1800, 5}, {1801, 5}, {1898, 5}, {1899, 6}, {1900, 7}, {1901, 7}, {1999, 7}, {2000, 99}};
        for (int[] d : due) {
            due("grains(2, 1, " + d[0] + ")", x.grains(2, 1, d[0]), d[1]);
            card(x, "card 1 " + d[0] + ";add 0 3 2;");
            due("by a CARD's text", x.mark((int) x.count(3) - 1, 0), 3L * d[1]);
        }
        for (int measure = 0; measure < 4; measure++) {
            for (int land = 0; land < 4; land++) {
                due("grains(" + measure + ", " + land + ")", x.grains(measure, land, 2000), measure == 2 && land == 1 ? 99 : 1);
            }
        }
        CakeCards y = withKitchen("measure 0 0 1801 9;measure 3 3 2000 8;" + PLAIN);
        due("ahead of any", y.grains(0, 0, 1800), 1);
        due("from that YEAR on", y.grains(0, 0, 1801), 9);
        due("ahead of any", y.grains(3, 3, 1999), 1);
        due("from that YEAR on", y.grains(3, 3, 2000), 8);
        says("GRAINS of a MEASURE in a LAND, a YEAR. BAD; STATE: no KITCHEN.");
        for (int measure : new int[] {-1, 4, NONE, MIN, MAX}) {
            due("MEASURE " + measure, x.grains(measure, 0, 1900), BAD);
            due("BAD ahead of STATE", new CakeCards().grains(measure, 0, 1900), BAD);
        }
        for (int land : BEYOND_LANDS) {
            due("LAND " + land, x.grains(0, land, 1900), BAD);
            due("BAD ahead of STATE", new CakeCards().grains(0, land, 1900), BAD);
        }
        for (int year : BEYOND_YEARS) {
            due("YEAR " + year, x.grains(0, 0, year), BAD);
            due("BAD ahead of STATE", new CakeCards().grains(0, 0, year), BAD);
        }
        due("STATE", new CakeCards().grains(3, 3, 2000), STATE);
    }

    // ---- held against one another, baked

    private static void unlikes() {
        says("how many MARKS of two CARDS are known in both, and not the same");
        CakeCards x = withOne(1, 2, 3, 4, 5, 6, 7, 8, 9, 10, 11);
        told(x, 1900, NONE, 2, 3, 4, 5, 6, 7, 8, 9, 8, 11, 12);
        told(x, 1900, NONE, all(-1));
        told(x, 1900, NONE, 0, 2, -1, 4, 5, 6, 7, 8, 9, 10, -1);
        due("all 11", x.unlike(0, 1), 11);
        due("all 11", x.unlike(1, 0), 11);
        due("one that is STAINED", x.unlike(0, 2), 0);
        due("the other way", x.unlike(2, 0), 0);
        due("both STAINED", x.unlike(2, 2), 0);
        due("itself", x.unlike(0, 0), 0);
        due("0 is known", x.unlike(0, 3), 1);
        due("two are STAINED", x.unlike(1, 3), 9);
        for (int mark = 0; mark < 11; mark++) {
            CakeCards y = withOne(one(mark, 1));
            told(y, 1900, NONE);
            due("MARK " + mark, y.unlike(0, 1), 1);
            y.stain(1, mark);
            due("MARK " + mark + " STAINED", y.unlike(0, 1), 0);
        }
        says("UNLIKE. BAD.");
        for (int card : new int[] {-1, 4, 12, NONE, MIN, MAX}) {
            due("unlike(0, " + card + ")", x.unlike(0, card), BAD);
            due("unlike(" + card + ", 0)", x.unlike(card, 0), BAD);
            due("unlike of it and itself", x.unlike(card, card), BAD);
        }
    }

    private static void dueRise(String rise, long want, boolean sinks, int... marks) {
        CakeCards x = withKitchen(rise);
        told(x, 1900, NONE, marks);
        due("RISE by [" + rise + "]", x.baked(0, 0), want);
        due("SINKS by [" + rise + "]", x.baked(0, 1), sinks ? 1 : 0);
    }

    private static void rises() {
        says("LIFT times GRAINS of all THINGS, added");
        for (int thing = 0; thing < 8; thing++) {
            String lifts = "rise 0 0 0 0 0 0 0 0 0 0 0 0;";
            int at = 5 + 2 * thing;
            dueRise(lifts.substring(0, at) + "9" + lifts.substring(at + 1), 9 * 9999, false, one(thing, 9999));
            dueRise(lifts, 0, false, one(thing, 9999));
        }
        dueRise("rise 9 9 9 9 9 9 9 9 0 0 99 9999;", 8 * 9 * 9999 - 90 - 99 + 99, false, MOST);
        says("and BEAT, of the KITCHEN's BEAT at most");
        dueRise("rise 0 0 0 0 0 0 0 0 0 0 50 49;", 49, false, one(10, 49));
        dueRise("rise 0 0 0 0 0 0 0 0 0 0 50 51;", 50, true, one(10, 50));
        dueRise("rise 0 0 0 0 0 0 0 0 0 0 50 50;", 50, false, one(10, 51));
        dueRise("rise 0 0 0 0 0 0 0 0 0 0 50 0;", 50, false, one(10, 99));
        dueRise("rise 0 0 0 0 0 0 0 0 0 0 0 0;", 0, false, one(10, 99));
        dueRise("rise 0 0 0 0 0 0 0 0 0 0 99 99;", 99, false, one(10, 99));
        says("less 10 for each HEAT that HEAT is off the KITCHEN's, less 1 for each LONG off");
        dueRise("rise 0 0 0 0 0 0 0 0 5 0 0 0;", 0, false, one(8, 5));
        dueRise("rise 0 0 0 0 0 0 0 0 5 0 0 0;", -10, true, one(8, 4));
        dueRise("rise 0 0 0 0 0 0 0 0 5 0 0 0;", -10, true, one(8, 6));
        dueRise("rise 0 0 0 0 0 0 0 0 9 0 0 0;", -90, true, one(8, 0));
        dueRise("rise 0 0 0 0 0 0 0 0 0 0 0 0;", -90, true, one(8, 9));
        dueRise("rise 0 0 0 0 0 0 0 0 0 40 0 0;", 0, false, one(9, 40));
        dueRise("rise 0 0 0 0 0 0 0 0 0 40 0 0;", -1, true, one(9, 39));
        dueRise("rise 0 0 0 0 0 0 0 0 0 40 0 0;", -1, true, one(9, 41));
        dueRise("rise 0 0 0 0 0 0 0 0 0 99 0 0;", -99, true, one(9, 0));
        dueRise("rise 0 0 0 0 0 0 0 0 0 0 0 0;", -99, true, one(9, 99));
        says("It SINKS, if RISE is below LEAST. (STAINED MARKS count as 0.)");
        dueRise("rise 1 0 0 0 0 0 0 0 0 0 0 9999;", 9999, false, 9999);
        dueRise("rise 1 0 0 0 0 0 0 0 0 0 0 9999;", 9998, true, 9998);
        dueRise("rise 1 0 0 0 0 0 0 0 0 0 0 1;", 1, false, 1);
        dueRise("rise 1 0 0 0 0 0 0 0 0 0 0 1;", 0, true, 0);
        dueRise("rise 1 0 0 0 0 0 0 0 0 0 0 0;", 0, false, 0);
        dueRise("rise 9 9 9 9 9 9 9 9 5 40 30 0;", -50 - 40, true, all(-1));
        for (int mark = 0; mark < 8; mark++) {
            dueRise("rise 9 9 9 9 9 9 9 9 0 0 9 0;", 0, false, one(mark, -1));
        }
        says("RISE (what = 0), whether it SINKS (1: 1, 0). BAD.");
        CakeCards x = withOne(1);
        for (int what : new int[] {-1, 2, NONE, MIN, MAX}) {
            due("baked(0, " + what + ")", x.baked(0, what), BAD);
        }
        for (int card : new int[] {-1, 1, 12, NONE, MIN, MAX}) {
            due("baked(" + card + ")", x.baked(card, 0), BAD);
            due("baked(" + card + ")", x.baked(card, 1), BAD);
        }
    }

    private static void dueBlame(String rise, int[] good, int[] sunk, long set, long marks, long sets) {
        CakeCards x = withKitchen(rise);
        told(x, 1900, NONE, good);
        told(x, 1900, NONE, sunk);
        due("blame, the set", x.blame(0, 1, 0), set);
        due("blame, how many MARKS", x.blame(0, 1, 1), marks);
        due("blame, how many sets", x.blame(0, 1, 2), sets);
    }

    private static void blames() {
        says("changed on the first one to what the other has, it SINKS: those of the fewest MARKS; of several the least as bits; NONE: there is none.");
        for (int mark = 0; mark < 8; mark++) {
            dueBlame("rise 1 1 1 1 1 1 1 1 0 0 0 1;", one(mark, 1), one(mark, 0), 1 << mark, 1, 1);
        }
        dueBlame("rise 0 0 0 0 0 0 0 0 9 0 0 0;", one(8, 9), one(8, 8), 1 << 8, 1, 1);
        dueBlame("rise 0 0 0 0 0 0 0 0 0 9 0 0;", one(9, 9), one(9, 10), 1 << 9, 1, 1);
        dueBlame("rise 0 0 0 0 0 0 0 0 0 0 9 9;", one(10, 9), one(10, 8), 1 << 10, 1, 1);
        String each = "rise 1 1 1 1 1 1 1 1 0 9 9 ";
        int[] good = {1, 1, 1, 1, 1, 1, 1, 1, 0, 9, 9};
        int[] sunk = {0, 0, 0, 0, 0, 0, 0, 0, 1, 8, 8};
        // The good one rises by 17; MARK 8 takes 10, each of the ten others 1.
        dueBlame(each + "17;", good, sunk, 1, 1, 11);
        dueBlame(each + "16;", good, sunk, 1 << 8, 1, 1);
        dueBlame(each + "8;", good, sunk, 1 << 8, 1, 1);
        dueBlame(each + "7;", good, sunk, 1 | 1 << 8, 2, 10);
        dueBlame(each + "6;", good, sunk, 3 | 1 << 8, 3, 45);
        dueBlame(each + "0;", good, sunk, 255 | 1 << 8, 9, 45);
        int[] sinking = sunk.clone();
        sinking[0] = 2;
        // MARK 0 would lift it: nine of the ten others, and of these the least ones.
        CakeCards x = withKitchen(each + "0;");
        told(x, 1900, NONE, good);
        told(x, 1900, NONE, sinking);
        due("blame, the set", x.blame(0, 1, 0), 1022);
        due("blame, how many sets", x.blame(0, 1, 2), 9);
        says("sets of MARKS that are UNLIKE");
        dueBlame("rise 1 1 0 0 0 0 0 0 0 0 0 5;", new int[] {5, 5}, new int[] {-1, 0}, NONE, NONE, 0);
        dueBlame("rise 1 1 0 0 0 0 0 0 0 0 0 5;", new int[] {-1, 5}, new int[] {0, -1}, NONE, NONE, 0);
        dueBlame("rise 1 1 0 0 0 0 0 0 0 0 0 5;", new int[] {5, -1}, new int[] {4, 0}, 1, 1, 1);
        dueBlame("rise 1 1 0 0 0 0 0 0 0 0 0 5;", new int[] {0, 5, 9}, new int[] {0, 4, 9}, 2, 1, 1);
        dueBlame("rise 1 0 0 0 0 0 0 0 0 0 0 5;", new int[] {5, 0, 9}, new int[] {-1, 4, 8}, NONE, NONE, 0);
        // All 11 are UNLIKE, and all of them are needed.
        int[] marks = {10, 10, 10, 10, 10, 10, 10, 10, 9, 99, 99};
        int[] fewer = {9, 9, 9, 9, 9, 9, 9, 9, 8, 98, 98};
        dueBlame("rise 1 1 1 1 1 1 1 1 9 99 99 160;", marks, fewer, 1 | 2 | 4 | 8 | 16 | 32 | 64 | 128 | 256 | 512 | 1024, 11, 1);
    }

    private static void refusedBlames() {
        says("BAD; STATE: the first SINKS, or the other does not.");
        CakeCards x = withKitchen("rise 1 0 0 0 0 0 0 0 0 0 0 5;");
        told(x, 1900, NONE, 5);
        told(x, 1900, NONE, 4);
        told(x, 1900, NONE, 6);
        told(x, 1900, NONE, 3);
        due("good, sunk", x.blame(0, 1, 0), 1);
        for (int what = 0; what < 3; what++) {
            due("the first SINKS", x.blame(1, 3, what), STATE);
            due("the other does not", x.blame(0, 2, what), STATE);
            due("both", x.blame(1, 0, what), STATE);
            due("itself", x.blame(0, 0, what), STATE);
            due("itself", x.blame(1, 1, what), STATE);
        }
        for (int what : new int[] {-1, 3, NONE, MIN, MAX}) {
            due("what " + what, x.blame(0, 1, what), BAD);
            due("BAD ahead of STATE", x.blame(1, 0, what), BAD);
        }
        for (int card : new int[] {-1, 4, 12, NONE, MIN, MAX}) {
            due("good " + card, x.blame(card, 1, 0), BAD);
            due("sunk " + card, x.blame(0, card, 0), BAD);
            due("BAD ahead of STATE", x.blame(1, card, 0), BAD);
        }
    }

    public static void main(String[] args) {
        items();
        places();
        landsAndYears();
        mothersTold();
        orderOfTold();
        laws();
        stainedCopies();
        tooManyGrains();
        numbersOfCopied();
        marksAndStains();
        whatOf();
        grainsByYears();
        unlikes();
        rises();
        blames();
        refusedBlames();
        end();
    }
}
