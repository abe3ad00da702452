import java.util.Arrays;

/** The boundary cases of YEARS, what is LEFT OUT, MENDED, the BOOK, IMAGES: promises 1 and 25 to 31. */
public final class HouseEdgeTest extends Checks {
    private static final int[] NO_CARDS = {-1, 12, NONE, MIN, MAX};
    private static final int[] NO_THINGS = {-1, 8, 10, NONE, MIN, MAX};

    private static void newObject() {
        says("## Promise 1: A new object");
        CakeCards x = new CakeCards();
        for (int what = 0; what < 6; what++) {
            due("count(" + what + ")", x.count(what), 0);
        }
        due("fault()", x.fault(), 0);
        due("status()", x.status(), 0);
        dueTrace(x);
        due("NONE", CakeCards.NONE, NONE);
        due("NOT", CakeCards.NOT, NOT);
        says("`CakeCards()`: No KITCHEN.");
        due("card()", x.card(), STATE);
        due("grains", x.grains(0, 0, 1800), STATE);
        due("told", x.told(0, 1800, 0, 0, NONE), STATE);
        due("image", x.image(0), STATE);
        due("image", x.image(1), STATE);
        due("restore", x.restore(0), STATE);
        due("restore", x.restore(1), STATE);
        due("mothers", x.mothers(0), STATE);
        due("book", x.book(0), STATE);
        due("kind", x.kind(0), BAD);
        CakeCards other = withKitchen(PLAIN);
        told(other, 1900, NONE, 1);
        due("another object has none of it", x.count(3), 0);
        due("another object has none of it", x.card(), STATE);
    }

    // ---- YEARS

    private static void dueYears(String packets, int[] marks, long from, long to) {
        CakeCards x = withKitchen(packets + PLAIN);
        due("told", told(x, 1900, NONE, marks), 0);
        due("years(0, 0) by [" + packets + "]", x.years(0, 0), from);
        due("years(0, 1) by [" + packets + "]", x.years(0, 1), to);
    }

    private static void years() {
        says("from the latest FROM to the earliest TILL of all their packets; NONE: there is no such packet, or nothing in all.");
        int[] first = {1};
        int[] two = {1, 1};
        dueYears("", first, NONE, NONE);
        dueYears("packet 1 1850 1900;", first, NONE, NONE);
        dueYears("packet 0 1850 1900;", first, 1850, 1900);
        dueYears("packet 0 1800 1800;", first, 1800, 1800);
        dueYears("packet 0 2000 2000;", first, 2000, 2000);
        dueYears("packet 0 1800 2000;", first, 1800, 2000);
        dueYears("packet 0 1850 1900;", two, 1850, 1900);
        dueYears("packet 0 1850 1900;packet 1 1900 1950;", two, 1900, 1900);
        dueYears("packet 0 1850 1900;packet 1 1901 1950;", two, NONE, NONE);
        dueYears("packet 1 1901 1950;packet 0 1850 1900;", two, NONE, NONE);
        dueYears("packet 0 1850 1900;packet 1 1899 1950;", two, 1899, 1900);
        dueYears("packet 0 1850 1900;packet 1 1901 1950;", first, 1850, 1900);
        dueYears("packet 0 1850 1900;packet 0 1860 1890;", first, 1860, 1890);
        dueYears("packet 0 1850 1890;packet 0 1860 1900;", first, 1860, 1890);
        dueYears("packet 0 1850 1859;packet 0 1860 1900;", first, NONE, NONE);
        dueYears("packet 0 1800 1800;packet 1 2000 2000;", two, NONE, NONE);
        dueYears("packet 0 1800 1990;packet 1 1810 1980;packet 2 1820 1970;packet 3 1830 1960;packet 4 1840 1950;"
            + "packet 5 1850 1940;packet 6 1860 1930;packet 7 1870 1920;", new int[] {1, 1, 1, 1, 1, 1, 1, 1}, 1870, 1920);
        for (int thing = 0; thing < 8; thing++) {
            dueYears("packet " + thing + " 1850 1900;", one(thing, 1), 1850, 1900);
            dueYears("packet " + thing + " 1850 1900;", one((thing + 1) % 8, 1), NONE, NONE);
        }
        says("YEARS of a CARD by THINGS that are known to be there");
        dueYears("packet 0 1850 1900;", new int[] {0}, NONE, NONE);
        dueYears("packet 0 1850 1900;", new int[] {-1}, NONE, NONE);
        dueYears("packet 0 1850 1900;", new int[] {9999}, 1850, 1900);
        dueYears("packet 0 1850 1900;packet 1 1860 1890;", new int[] {1, -1}, 1850, 1900);
        dueYears("packet 0 1850 1900;packet 1 1860 1890;", new int[] {-1, 1}, 1860, 1890);
        dueYears("packet 0 1850 1900;packet 1 1860 1890;", new int[] {0, 0, 0, 0, 0, 0, 0, 0, 1, 1, 1}, NONE, NONE);
        says("YEARS of a CARD: from (what = 0), to (1); NONE. BAD.");
        CakeCards x = withKitchen("packet 0 1850 1900;" + PLAIN);
        told(x, 1900, NONE, 1);
        for (int what : new int[] {-1, 2, NONE, MIN, MAX}) {
            due("years(0, " + what + ")", x.years(0, what), BAD);
        }
        for (int card : NO_CARDS) {
            due("years(" + card + ", 0)", x.years(card, 0), BAD);
        }
        due("years(1, 0)", x.years(1, 0), BAD);
    }

    // ---- LEFT OUT

    private static CakeCards family(int... things) {
        CakeCards x = withKitchen(PLAIN);
        for (int i = 0; i < things.length; i++) {
            told(x, 1900, i == 0 ? NONE : i - 1, one(7, things[i]));
        }
        return x;
    }

    private static void dueLeft(CakeCards x, int card, long heirs) {
        due("left(" + card + ", 7)", x.left(card, 7), heirs);
        for (int l = 2; l <= 9; l++) {
            long lower = 1;
            for (int i = 0; i < heirs; i++) {
                lower *= l;
            }
            due("chance(" + card + ", 7, " + l + ")", x.chance(card, 7, l), heirs == NONE ? NONE : lower);
        }
    }

    private static void leftOut() {
        says("its mother has it (known, above 0), it has not (known 0), nor any CARD that comes from it (by mothers, however far; known 0): how many come from it; NONE: not so.");
        dueLeft(family(1, 0), 1, 0);
        dueLeft(family(9999, 0), 1, 0);
        dueLeft(family(1, 0), 0, NONE);
        dueLeft(family(0, 0), 0, NONE);
        dueLeft(family(0, 0), 1, NONE);
        dueLeft(family(-1, 0), 1, NONE);
        dueLeft(family(1, 1), 1, NONE);
        dueLeft(family(1, -1), 1, NONE);
        dueLeft(family(2, 1), 1, NONE);
        dueLeft(family(1, 0, 0), 1, 1);
        dueLeft(family(1, 0, 0), 2, NONE);
        dueLeft(family(1, 0, 1), 1, NONE);
        dueLeft(family(1, 0, -1), 1, NONE);
        dueLeft(family(1, 0, 0, 0, 0, 0, 0, 0, 0, 0, 0, 0), 1, 10);
        dueLeft(family(1, 0, 0, 0, 0, 0, 0, 0, 0, 0, 0, 1), 1, NONE);
        dueLeft(family(1, 0, 0, 0, 0, 0, 0, 0, 0, 0, 0, -1), 1, NONE);
        dueLeft(family(1, 0, 0, 0, 0, 0, 0, 0, 0, 0, 1, 0), 11, 0);
        dueLeft(family(1, 1, 0, 0, 0), 2, 2);
        dueLeft(family(1, 1, 0, 0, 0), 1, NONE);
        CakeCards x = family(1, 0);
        told(x, 1900, NONE, one(7, 1));
        told(x, 1900, 0, one(7, 1));
        told(x, 1900, 3, one(7, 1));
        dueLeft(x, 1, 0);
        told(x, 1900, 1, one(0, 1));
        told(x, 1900, 1, one(1, 1));
        told(x, 1900, 5, one(2, 1));
        dueLeft(x, 1, 3);
        told(x, 1900, 7, one(7, 1));
        dueLeft(x, 1, NONE);
        dueLeft(x, 5, NONE);
        dueLeft(x, 6, NONE);
        CakeCards none = withKitchen(PLAIN);
        told(none, 1900, NONE);
        dueLeft(none, 0, NONE);
        for (int thing = 0; thing < 8; thing++) {
            CakeCards y = withKitchen(PLAIN);
            told(y, 1900, NONE, one(thing, 1));
            told(y, 1900, 0);
            for (int other = 0; other < 8; other++) {
                due("left(1, " + other + ")", y.left(1, other), other == thing ? 0 : NONE);
            }
        }
    }

    private static void leftNumbers() {
        CakeCards x = family(1, 0);
        says("LEFT OUT (NONE). BAD.");
        for (int thing : NO_THINGS) {
            due("left(1, " + thing + ")", x.left(1, thing), BAD);
            due("chance(1, " + thing + ", 2)", x.chance(1, thing, 2), BAD);
        }
        for (int card : NO_CARDS) {
            due("left(" + card + ", 7)", x.left(card, 7), BAD);
            due("chance(" + card + ", 7, 2)", x.chance(card, 7, 2), BAD);
        }
        due("left(2, 7)", x.left(2, 7), BAD);
        due("chance(2, 7, 2)", x.chance(2, 7, 2), BAD);
        says("the lower number (the upper is 1; 1, if none comes from it); NONE: not LEFT OUT. BAD: also L.");
        for (int l : new int[] {-1, 0, 1, 10, 11, NONE, MIN, MAX}) {
            due("chance(1, 7, " + l + ")", x.chance(1, 7, l), BAD);
            due("BAD ahead of NONE", x.chance(0, 7, l), BAD);
        }
        says("1 by L times itself as often");
        CakeCards most = family(1, 0, 0, 0, 0, 0, 0, 0, 0, 0, 0, 0);
        due("9 by itself ten times", most.chance(1, 7, 9), 3486784401L);
        due("2 by itself ten times", most.chance(1, 7, 2), 1024);
    }

    // ---- MENDED

    private static void dueMend(int a, int b, int c, int want) {
        CakeCards x = withKitchen(PLAIN);
        for (int v : new int[] {-1, a, b, c}) {
            told(x, 1900, NONE, one(9, v));
        }
        due("mend by " + a + ", " + b + ", " + c, x.mend(0, 1, 2, 3), want == -1 ? 0 : 1);
        due("the MARK", x.mark(0, 9), want == -1 ? NONE : want);
        due("of(0, 3)", x.of(0, 3), want == -1 ? 1 : 0);
    }

    private static void mended() {
        says("each STAINED MARK becomes what two or three of them have (known); of a MARK on which no two agree, it stays.");
        dueMend(5, 5, 5, 5);
        dueMend(5, 5, 6, 5);
        dueMend(5, 6, 5, 5);
        dueMend(6, 5, 5, 5);
        dueMend(5, 6, 7, -1);
        dueMend(5, 5, -1, 5);
        dueMend(5, -1, 5, 5);
        dueMend(-1, 5, 5, 5);
        dueMend(5, 6, -1, -1);
        dueMend(-1, 5, 6, -1);
        dueMend(5, -1, -1, -1);
        dueMend(-1, 5, -1, -1);
        dueMend(-1, -1, 5, -1);
        dueMend(-1, -1, -1, -1);
        dueMend(0, 0, 0, 0);
        dueMend(0, 0, -1, 0);
        dueMend(0, -1, 5, -1);
        dueMend(0, -1, -1, -1);
        CakeCards x = withKitchen(PLAIN);
        told(x, 1900, NONE, all(-1));
        told(x, 1900, NONE, 1, 2, 3, 4, 5, 6, 7, 8, 9, 10, 11);
        told(x, 1900, NONE, 1, 2, 3, 4, 5, 6, 7, 8, 9, 10, 11);
        told(x, 1900, NONE, all(-1));
        due("all 11", x.mend(0, 1, 2, 3), 11);
        dueMarks(x, 0, 1, 2, 3, 4, 5, 6, 7, 8, 9, 10, 11);
        due("none is STAINED", x.mend(0, 3, 2, 1), 0);
        told(x, 1900, NONE, 5);
        due("what is known stays", x.mend(4, 0, 1, 2), 0);
        dueMarks(x, 4, 5);
        due("those that mend stay", x.of(3, 3), 11);
        due("mended by the mended", x.mend(3, 0, 1, 2), 11);
        says("MENDED by three others: how many MARKS become known. BAD (alike ones, too).");
        int[] cards = {0, 1, 2, 3};
        for (int place = 0; place < 4; place++) {
            for (int other = 0; other < 4; other++) {
                int[] c = cards.clone();
                c[place] = c[other];
                due("mend " + Arrays.toString(c), x.mend(c[0], c[1], c[2], c[3]), place == other ? 0 : BAD);
            }
            for (int off : new int[] {-1, 5, 12, NONE, MIN, MAX}) {
                int[] c = cards.clone();
                c[place] = off;
                due("mend " + Arrays.toString(c), x.mend(c[0], c[1], c[2], c[3]), BAD);
            }
        }
    }

    // ---- BOOK

    private static void books() {
        says("the fewest CARDS so that each is of the set, or UNLIKE one of it in d MARKS at most; of several the least as bits");
        CakeCards one = withKitchen(PLAIN);
        told(one, 1900, NONE, 1);
        for (int d = 0; d <= 11; d++) {
            due("one CARD by " + d, one.book(d), 1);
        }
        for (int apart = 1; apart <= 11; apart++) {
            CakeCards x = withKitchen(PLAIN);
            told(x, 1900, NONE, all(1));
            int[] other = all(1);
            Arrays.fill(other, 0, apart, 2);
            told(x, 1900, NONE, other);
            for (int d = 0; d <= 11; d++) {
                due("two, " + apart + " apart, by " + d, x.book(d), d >= apart ? 1 : 3);
            }
        }
        CakeCards x = withKitchen(PLAIN);
        for (int i = 0; i < 12; i++) {
            int[] marks = all(0);
            Arrays.fill(marks, 0, i < 11 ? i : 0, 1);
            told(x, 1900, NONE, marks);
        }
        // CARDS 0 .. 10 stand in a row, one MARK apart; 11 is as 0.
        due("by 0: 0 is as 11", x.book(0), 0x7FF);
        due("by 1: threes of the row", x.book(1), 1 | 1 << 3 | 1 << 6 | 1 << 9);
        due("by 2: fives of the row", x.book(2), 1 | 1 << 3 | 1 << 8);
        due("by 5: the middle", x.book(5), 1 << 5);
        due("by 10: any", x.book(10), 1);
        due("by 11: any", x.book(11), 1);
        CakeCards stained = withKitchen(PLAIN);
        told(stained, 1900, NONE, 1, 1);
        told(stained, 1900, NONE, 2, 2);
        told(stained, 1900, NONE, -1, -1);
        due("a STAINED one is near to each", stained.book(0), 4);
        CakeCards blamed = withKitchen("rise 9 0 1 0 0 0 0 0 0 0 0 60;");
        told(blamed, 1900, NONE, 9, 0, 0);
        told(blamed, 1900, NONE, 0, 0, 3);
        due("blame ahead of it", blamed.blame(0, 1, 0), 1);
        due("both", blamed.book(0), 3);
        due("blame again", blamed.blame(0, 1, 2), 1);
        CakeCards fewer = withKitchen(PLAIN);
        for (int i = 0; i < 12; i++) {
            told(fewer, 1900, NONE, 1);
        }
        due("twelve alike", fewer.book(0), 1);
        kitchen(fewer, PLAIN);
        told(fewer, 1900, NONE, 1);
        told(fewer, 1900, NONE, 2);
        due("two where there were twelve", fewer.book(0), 3);
        says("BOOK by d (0 to 11). BAD; STATE: no CARDS.");
        for (int d : new int[] {-1, 12, NONE, MIN, MAX}) {
            due("book(" + d + ")", one.book(d), BAD);
            due("BAD ahead of STATE", new CakeCards().book(d), BAD);
        }
        due("no KITCHEN", new CakeCards().book(0), STATE);
        due("no CARDS", withKitchen(PLAIN).book(11), STATE);
    }

    // ---- IMAGES

    private static void images() {
        says("An IMAGE (0, 1) is kept of the KITCHEN and all CARDS: 1. BAD; STATE: no KITCHEN.");
        CakeCards x = new CakeCards();
        for (int k : new int[] {-1, 2, NONE, MIN, MAX}) {
            due("BAD ahead of STATE", x.image(k), BAD);
            due("BAD ahead of STATE", x.restore(k), BAD);
        }
        due("no KITCHEN", x.image(0), STATE);
        due("no KITCHEN", x.image(1), STATE);
        says("KITCHEN and CARDS are as an IMAGE kept them: 1. BAD; STATE: none was kept.");
        due("none was kept", x.restore(0), STATE);
        kitchen(x, "measure 0 0 1800 7;packet 0 1850 1900;rise 2 0 0 0 0 0 0 0 0 0 0 2;");
        due("none was kept", x.restore(0), STATE);
        due("none was kept", x.restore(1), STATE);
        due("no CARDS yet", x.image(1), 1);
        due("the other one was not kept", x.restore(0), STATE);
        told(x, 1900, NONE, 1, -1);
        told(x, 1901, 0, 3);
        due("image(0)", x.image(0), 1);
        due("restore(1)", x.restore(1), 1);
        due("no CARDS", x.count(3), 0);
        due("grains", x.grains(0, 0, 1800), 7);
        due("restore(0)", x.restore(0), 1);
        due("two CARDS", x.count(3), 2);
        for (int k : new int[] {-1, 2, NONE, MIN, MAX}) {
            due("image(" + k + ")", x.image(k), BAD);
            due("restore(" + k + ")", x.restore(k), BAD);
        }
        everythingIsKept(x);
        says("IMAGES and ROWS stay");
        kitchen(x, PLAIN);
        x.image(1);
        kitchen(x, "rise 9 9 9 9 9 9 9 9 9 9 9 9;");
        due("restore(1)", x.restore(1), 1);
        due("no packets", x.count(2), 0);
        due("restore(0)", x.restore(0), 1);
        due("one packet", x.count(2), 1);
        due("again", x.restore(0), 1);
        due("two CARDS", x.count(3), 2);
    }

    private static void everythingIsKept(CakeCards x) {
        says("KITCHEN and CARDS are as an IMAGE kept them: 1.");
        feed(x, "card");
        x.stain(0, 0);
        x.stain(1, 7);
        told(x, 1950, 1, 9);
        x.as(0, 1);
        x.ask(0, 1);
        due("an IMAGE is not what is there now", x.restore(0), 1);
        due("the tape stays", x.count(5), 4);
        due("ROWS stay", x.count(0), 1);
        due("status() stays", x.status(), 3);
        due("fault() stays", x.fault(), 0);
        dueTrace(x, 22, 20, 13, 10);
        dueMarks(x, 0, 1, NONE);
        dueMarks(x, 1, 3);
        due("of(1, 1)", x.of(1, 1), 1901);
        due("of(1, 2)", x.of(1, 2), 0);
        due("count(3)", x.count(3), 2);
        due("count(4)", x.count(4), 1);
        due("RISE", x.baked(1, 0), 6);
        due("LEAST", x.baked(0, 1), 0);
        due("years", x.years(1, 1), 1900);
        due("grains", x.grains(0, 0, 1900), 7);
        due("a CARD more", told(x, 1950, 1, 9), 2);
        due("the tape of a KITCHEN: faulty", x.kitchen(), NOT - 100);
        due("restore(0)", x.restore(0), 1);
        due("count(3)", x.count(3), 2);
        due("fault() stays", x.fault(), 1);
    }

    private static void fullImages() {
        says("An IMAGE (0, 1) is kept of the KITCHEN and all CARDS: 1.");
        CakeCards x = withKitchen(times("measure 0 0 1900 1;", 15) + "measure 3 3 2000 99;" + times("packet 0 1900 1900;", 7)
            + "packet 7 1800 2000;" + PLAIN);
        for (int i = 0; i < 12; i++) {
            told(x, 1989 + i, i == 0 ? NONE : i - 1, i, i, i, i, i, i, i, i, i % 10, i, i);
        }
        due("image(1)", x.image(1), 1);
        kitchen(x, PLAIN);
        due("restore(1)", x.restore(1), 1);
        due("count(1)", x.count(1), 16);
        due("count(2)", x.count(2), 8);
        due("the 16th measure", x.grains(3, 3, 2000), 99);
        for (int i = 0; i < 12; i++) {
            dueMarks(x, i, i, i, i, i, i, i, i, i, i % 10, i, i);
            due("of(" + i + ", 1)", x.of(i, 1), 1989 + i);
            due("of(" + i + ", 2)", x.of(i, 2), i == 0 ? NONE : i - 1);
        }
        due("full", card(x, "card 0 1900;"), FULL);
    }

    private static void dueOf(CakeCards x, int card, long land, long year, long mother, long mark) {
        due("LAND of " + card, x.of(card, 0), land);
        due("YEAR of " + card, x.of(card, 1), year);
        due("mother of " + card, x.of(card, 2), mother);
        due("MARK 10 of " + card, x.mark(card, 10), mark);
    }

    private static void imagesApart() {
        says("KITCHEN and CARDS are as an IMAGE kept them: 1.");
        CakeCards x = withKitchen(PLAIN);
        x.row(0, 0, 11);
        for (int card = 0; card < 12; card++) {
            x.set(0, 10, card);
            x.told(card % 4, 1850 + card, 0, 0, card == 0 ? NONE : 0);
        }
        x.image(0);
        kitchen(x, PLAIN);
        for (int card = 0; card < 12; card++) {
            x.set(0, 10, 50 + card);
            x.told(3 - card % 4, 1950 - card, 0, 0, NONE);
        }
        x.image(1);
        kitchen(x, PLAIN);
        for (int card = 0; card < 12; card++) {
            x.set(0, 10, 99);
            x.told((card + 1) % 4, 2000, 0, 0, card == 0 ? NONE : card - 1);
        }
        x.restore(0);
        for (int card = 0; card < 12; card++) {
            dueOf(x, card, card % 4, 1850 + card, card == 0 ? NONE : 0, card);
        }
        x.restore(1);
        for (int card = 0; card < 12; card++) {
            dueOf(x, card, 3 - card % 4, 1950 - card, NONE, 50 + card);
        }
        x.restore(0);
        for (int card = 0; card < 12; card++) {
            dueOf(x, card, card % 4, 1850 + card, card == 0 ? NONE : 0, card);
        }
    }

    public static void main(String[] args) {
        newObject();
        years();
        leftOut();
        leftNumbers();
        mended();
        books();
        images();
        fullImages();
        imagesApart();
        end();
    }
}
