/** What is refused, or found, changes nothing but status(): each refusal of each call, held against an object without the call. */
public final class RefusalTest extends Checks {
    private interface Setup {
        CakeCards make();
    }

    private interface Call {
        long on(CakeCards x);
    }

    // ---- objects to be refused by

    private static void rows(CakeCards x) {
        for (int row = 0; row < 3; row++) {
            x.row(row, row, 11 + row);
            x.set(row, 0, 5);
            x.set(row, 10, 9 - row);
            x.set(row, 10 + row, 3);
        }
        x.row(3, 2, 11);
        x.set(3, 4, -2);
        x.drop(6);
    }

    /** No KITCHEN. */
    private static CakeCards bare() {
        CakeCards x = new CakeCards();
        rows(x);
        feed(x, "card 1 19");
        return x;
    }

    /** A tape with room for three bytes. */
    private static CakeCards brim() {
        CakeCards x = new CakeCards();
        rows(x);
        feed(x, times(" ", 468) + PLAIN);
        return x;
    }

    /** A KITCHEN without CARDS. */
    private static CakeCards empty() {
        CakeCards x = withKitchen("measure 0 1 1900 7;packet 0 1850 1950;rise 1 2 0 0 0 0 0 9 5 40 30 20;");
        rows(x);
        feed(x, "card 1 19");
        return x;
    }

    /** Four CARDS, an IMAGE without any, a FAULT, a TRACE. */
    private static CakeCards open() {
        CakeCards x = empty();
        x.kitchen();
        x.image(0);
        told(x, 1900, NONE, 9999, 20, 1, 0, 0, 0, 0, 0, 5, 40, 30);
        told(x, 1901, 0, 0, -1, -1, 0, 0, 0, 0, 0, 5, 38, 30);
        told(x, 1900, 0, 1, 1);
        told(x, 1900, 2, 0, 1);
        x.ask(1, 1);
        x.as(0, 5);
        feed(x, "card 1 19");
        return x;
    }

    /** Twelve CARDS, and an IMAGE of three. */
    private static CakeCards full() {
        CakeCards x = open();
        x.kitchen();
        x.image(1);
        for (int card = 4; card < 12; card++) {
            x.copied(card % 2, 1, 1950, card % 7, 1, 2);
        }
        x.ask(0, 0);
        x.copy(0, 0, 1, 0, 0);
        feed(x, "card 1 19");
        return x;
    }

    // ---- what can be seen of an object

    private static void tell(StringBuilder s, long answer) {
        s.append(answer).append(' ');
    }

    private static void tellCards(StringBuilder s, CakeCards x) {
        s.append("| ");
        for (int what = 1; what < 5; what++) {
            tell(s, x.count(what));
        }
        tell(s, x.grains(0, 1, 1900));
        long cards = x.count(3);
        for (int card = 0; card < cards; card++) {
            for (int what = 0; what < 5; what++) {
                tell(s, x.of(card, what));
            }
            for (int mark = 0; mark < 11; mark++) {
                tell(s, x.mark(card, mark));
            }
            tell(s, x.baked(card, 0));
        }
    }

    private static void tellRows(StringBuilder s, CakeCards x) {
        s.append("| ");
        kitchen(x, PLAIN);
        for (int row = 0; row < 3; row++) {
            tell(s, x.told(0, 1900, row, 0, NONE));
            tell(s, x.told(0, 1900, row, row, NONE));
        }
        long cards = x.count(3);
        for (int card = 0; card < cards; card++) {
            for (int mark = 0; mark < 11; mark++) {
                tell(s, x.mark(card, mark));
            }
        }
        for (int row = 0; row < 8; row++) {
            tell(s, x.set(row, 0, 70000));
            tell(s, x.drop(row));
        }
    }

    /** All that can be seen of an object but status(); it is of no use then. */
    private static String reveal(CakeCards x, boolean withTape) {
        StringBuilder s = new StringBuilder();
        tell(s, x.count(0));
        for (int i = 0; i < 8; i++) {
            tell(s, x.trace(i));
        }
        if (withTape) {
            tell(s, x.count(5));
            tell(s, x.fault());
        }
        tellCards(s, x);
        if (withTape) {
            feed(x, "50;");
            tell(s, x.card());
            tell(s, x.count(3));
            tell(s, x.kitchen());
        }
        x.kitchen();
        for (int k = 0; k < 2; k++) {
            tell(s, x.restore(k));
            tellCards(s, x);
        }
        tellRows(s, x);
        return s.toString();
    }

    private static void refused(String call, Setup setup, Call made, long answer) {
        CakeCards x = setup.make();
        CakeCards twin = setup.make();
        due(call, made.on(x), answer);
        boolean found = answer <= NULL && answer >= STORE;
        due("status() after " + call, x.status(), found ? NOT - 10 - answer : twin.status());
        same("what is there after " + call, reveal(x, true), reveal(twin, true));
    }

    // ---- the refusals

    private static void ofRows(Setup setup) {
        refused("row(8, 0, 1)", setup, x -> x.row(8, 0, 1), BAD);
        refused("row(0, 3, 1)", setup, x -> x.row(0, 3, 1), BAD);
        refused("row(0, 0, 41)", setup, x -> x.row(0, 0, 41), BAD);
        refused("row(0, 0, -1)", setup, x -> x.row(0, 0, -1), SIZE);
        refused("row(6, 0, -1)", setup, x -> x.row(6, 0, -1), SIZE);
        refused("set(8, 0, 1)", setup, x -> x.set(8, 0, 1), BAD);
        refused("set(6, 0, 1)", setup, x -> x.set(6, 0, 1), NULL);
        refused("set(0, 11, 1)", setup, x -> x.set(0, 11, 1), PLACE);
        refused("set(1, -1, 1)", setup, x -> x.set(1, -1, 1), PLACE);
        refused("copy(0, 0, 8, 0, 1)", setup, x -> x.copy(0, 0, 8, 0, 1), BAD);
        refused("copy(0, 0, 6, 0, 1)", setup, x -> x.copy(0, 0, 6, 0, 1), NULL);
        refused("copy(0, 0, 1, 0, 1)", setup, x -> x.copy(0, 0, 1, 0, 1), STORE);
        refused("copy(2, 0, 2, 4, 10)", setup, x -> x.copy(2, 0, 2, 4, 10), PLACE);
        refused("copy(2, 4, 2, 0, 10)", setup, x -> x.copy(2, 4, 2, 0, 10), PLACE);
        refused("copy(2, 4, 2, 0, -1)", setup, x -> x.copy(2, 4, 2, 0, -1), PLACE);
        refused("drop(8)", setup, x -> x.drop(8), BAD);
        refused("drop(6)", setup, x -> x.drop(6), NULL);
        refused("feed(1, 0)", setup, x -> x.feed(1, 0), BAD);
        refused("feed(1, 9)", setup, x -> x.feed(1, 9), BAD);
    }

    private static void numbers(Setup setup) {
        refused("told, LAND", setup, x -> x.told(4, 1900, 0, 0, NONE), BAD);
        refused("told, YEAR", setup, x -> x.told(0, 2001, 0, 0, NONE), BAD);
        refused("told, ROW", setup, x -> x.told(0, 1900, 8, 0, NONE), BAD);
        refused("told, mother", setup, x -> x.told(0, 1800, 0, 0, 0), BAD);
        refused("copied, CARD", setup, x -> x.copied(12, 0, 2000, 0, 0, 0), BAD);
        refused("copied, LAW", setup, x -> x.copied(0, 0, 2000, 7, 0, 0), BAD);
        refused("copied, swapped", setup, x -> x.copied(0, 0, 2000, 4, 1, 1), BAD);
        refused("mark", setup, x -> x.mark(0, 11), BAD);
        refused("of", setup, x -> x.of(0, 5), BAD);
        refused("stain", setup, x -> x.stain(0, 11), BAD);
        refused("stain", setup, x -> x.stain(12, 0), BAD);
        refused("grains", setup, x -> x.grains(4, 0, 1900), BAD);
        refused("unlike", setup, x -> x.unlike(0, 12), BAD);
        refused("baked", setup, x -> x.baked(0, 2), BAD);
        refused("blame", setup, x -> x.blame(0, 1, 3), BAD);
        refused("mothers", setup, x -> x.mothers(2), BAD);
        refused("mother", setup, x -> x.mother(12), BAD);
        refused("two", setup, x -> x.two(0, 3), BAD);
        refused("trees", setup, x -> x.trees(1, 0), BAD);
        refused("sure", setup, x -> x.sure(3, -2), BAD);
        refused("first", setup, x -> x.first(3, 11, 0), BAD);
        refused("years", setup, x -> x.years(0, 2), BAD);
        refused("left", setup, x -> x.left(0, 8), BAD);
        refused("chance", setup, x -> x.chance(0, 0, 10), BAD);
        refused("mend", setup, x -> x.mend(1, 0, 2, 2), BAD);
        refused("mend", setup, x -> x.mend(1, 0, 2, 12), BAD);
        refused("book", setup, x -> x.book(12), BAD);
        refused("image", setup, x -> x.image(2), BAD);
        refused("restore", setup, x -> x.restore(2), BAD);
        refused("kind", setup, x -> x.kind(12), BAD);
        refused("as", setup, x -> x.as(0, 6), BAD);
        refused("ask", setup, x -> x.ask(0, 2), BAD);
        refused("count", setup, x -> x.count(6), BAD);
    }

    private static void withoutKitchen() {
        Setup setup = RefusalTest::bare;
        refused("card", setup, x -> x.card(), STATE);
        refused("told", setup, x -> x.told(0, 1900, 0, 0, NONE), STATE);
        refused("told of a missing ROW", setup, x -> x.told(0, 1900, 6, 0, NONE), STATE);
        refused("grains", setup, x -> x.grains(0, 0, 1900), STATE);
        refused("mothers", setup, x -> x.mothers(0), STATE);
        refused("book", setup, x -> x.book(0), STATE);
        refused("image", setup, x -> x.image(0), STATE);
        refused("restore", setup, x -> x.restore(1), STATE);
        refused("no FULL, but STATE", RefusalTest::brim, x -> x.card(), STATE);
        refused("feed, FULL", RefusalTest::brim, x -> x.feed(0x3B3B3B3BL, 4), FULL);
        refused("feed, FULL", RefusalTest::brim, x -> x.feed(-1, 8), FULL);
    }

    private static void withoutCards() {
        Setup setup = RefusalTest::empty;
        refused("mothers", setup, x -> x.mothers(1), STATE);
        refused("book", setup, x -> x.book(11), STATE);
        refused("restore", setup, x -> x.restore(0), STATE);
        refused("copied", setup, x -> x.copied(0, 0, 2000, 0, 0, 0), BAD);
        refused("trees", setup, x -> x.trees(3, 0), BAD);
    }

    private static void withCards() {
        Setup setup = RefusalTest::open;
        refused("told, no ROW", setup, x -> x.told(0, 1900, 6, 0, NONE), NULL);
        refused("told, no such place", setup, x -> x.told(0, 1900, 1, 2, 0), PLACE);
        refused("told, an ITEM", setup, x -> x.told(0, 1900, 3, 0, 0), BAD);
        refused("told, a mother of a greater YEAR", setup, x -> x.told(0, 1900, 0, 0, 1), BAD);
        refused("copied, earlier", setup, x -> x.copied(1, 0, 1900, 0, 0, 0), BAD);
        refused("copied, too many GRAINS", setup, x -> x.copied(0, 0, 1900, 2, 0, 0), STATE);
        refused("copied, too many GRAINS", setup, x -> x.copied(0, 0, 1900, 4, 0, 2), STATE);
        refused("blame", setup, x -> x.blame(1, 0, 0), STATE);
        refused("restore", setup, x -> x.restore(1), STATE);
        refused("as", setup, x -> x.as(0, 5), KIND);
        refused("as", setup, x -> x.as(1, 1), KIND);
    }

    private static void withAllCards() {
        Setup setup = RefusalTest::full;
        refused("card", setup, x -> x.card(), FULL);
        refused("told", setup, x -> x.told(0, 1900, 0, 0, NONE), FULL);
        refused("told of a missing ROW", setup, x -> x.told(0, 1900, 6, -1, NONE), FULL);
        refused("copied", setup, x -> x.copied(1, 0, 2000, 0, 0, 0), FULL);
        refused("copied, too many GRAINS", setup, x -> x.copied(0, 0, 2000, 2, 0, 0), STATE);
    }

    // ---- FAULTS, and what only tells

    private static void faulty(String call, Setup setup, Call made, long answer, int fault) {
        CakeCards x = setup.make();
        CakeCards twin = setup.make();
        due(call, made.on(x), answer);
        due("the tape after " + call, x.count(5), 0);
        due("fault() after " + call, x.fault(), fault);
        due("status() after " + call, x.status(), twin.status());
        same("what is there after " + call, reveal(x, false), reveal(twin, false));
    }

    private static void faults() {
        says("all but the tape, and what fault() tells, stays.");
        Setup[] setups = {RefusalTest::bare, RefusalTest::empty, RefusalTest::open, RefusalTest::full};
        for (Setup setup : setups) {
            faulty("kitchen()", setup, x -> x.kitchen(), NOT - 100, 1);
            Setup half = () -> {
                CakeCards x = setup.make();
                x.kitchen();
                return x;
            };
            faulty("half a KITCHEN", half, x -> kitchen(x, "measure 0 1 1800 9;packet 0 1800 1801;rise 9 9 9 9 9 9 9 9 9 9 9 10000;"), NOT - 165, 1);
            faulty("half a measure", half, x -> kitchen(x, "measure 0 1 1800 0;"), NOT - 117, 2);
        }
        for (Setup setup : new Setup[] {RefusalTest::empty, RefusalTest::open}) {
            faulty("card()", setup, x -> x.card(), NOT - 107, 2);
            Setup half = () -> {
                CakeCards x = setup.make();
                x.kitchen();
                return x;
            };
            faulty("half a CARD", half, x -> card(x, "card 0 1900;add 0 1 0;heat 5 5;beat 5;beat"), NOT - 138, 4);
        }
    }

    private static void tells(String call, Call made) {
        CakeCards x = open();
        CakeCards twin = open();
        made.on(x);
        due("status() after " + call, x.status(), twin.status());
        same("what is there after " + call, reveal(x, true), reveal(twin, true));
    }

    private static void whatOnlyTells() {
        says("Nothing is promised beyond the answers and state changes described above");
        tells("fault", x -> x.fault());
        tells("mark", x -> x.mark(0, 0));
        tells("of", x -> x.of(0, 4));
        tells("grains", x -> x.grains(0, 1, 1900));
        tells("unlike", x -> x.unlike(0, 1));
        tells("baked", x -> x.baked(0, 0));
        tells("blame", x -> x.blame(0, 2, 0));
        tells("mothers", x -> x.mothers(1));
        tells("mother", x -> x.mother(1));
        tells("two", x -> x.two(1, 0));
        tells("trees", x -> x.trees(15, 0));
        tells("sure", x -> x.sure(15, 0));
        tells("first", x -> x.first(15, 0, 0));
        tells("years", x -> x.years(0, 0));
        tells("left", x -> x.left(3, 0));
        tells("chance", x -> x.chance(3, 0, 2));
        tells("book", x -> x.book(2));
        tells("kind", x -> x.kind(0));
        tells("trace", x -> x.trace(0));
        tells("count", x -> x.count(0));
        tells("status", x -> x.status());
        tells("a stain that was there", x -> x.stain(1, 1));
        tells("a mend by which none becomes known", x -> x.mend(0, 1, 2, 3));
        tells("a copy of none", x -> x.copy(0, 0, 0, 0, 0) + x.as(0, 5));
    }

    public static void main(String[] args) {
        says("What is refused, or found, changes nothing but status().");
        Setup[] setups = {RefusalTest::bare, RefusalTest::brim, RefusalTest::empty, RefusalTest::open, RefusalTest::full};
        for (Setup setup : setups) {
            ofRows(setup);
            numbers(setup);
        }
        withoutKitchen();
        withoutCards();
        withCards();
        withAllCards();
        faults();
        whatOnlyTells();
        end();
    }
}
