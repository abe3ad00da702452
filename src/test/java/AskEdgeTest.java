/** The boundary cases of KINDS, ASKS, THE TRACE and what is counted: promises 32 to 36. */
public final class AskEdgeTest extends Checks {
    private static final int[] NO_CARDS = {-1, 12, NONE, MIN, MAX};
    private static final int CARD = 0;
    private static final int WHOLE = 1;
    private static final int MARRED = 2;
    private static final int SUNK = 3;
    private static final int OWN = 4;
    private static final int ILL = 5;
    /** LEAST is 3, and each THING lifts by 1. */
    private static final String KITCHEN = "rise 1 1 1 1 1 1 1 1 0 0 0 3;";

    // ---- KINDS

    private static void dueKind(CakeCards x, int card, int kind) {
        due("kind(" + card + ")", x.kind(card), kind);
        for (int as = 0; as <= 5; as++) {
            boolean is = as == CARD || as == kind || as == WHOLE && (kind == SUNK || kind == OWN) || as == MARRED && kind == ILL;
            x.drop(6);
            due("as(" + card + ", " + as + ") of " + kind, x.as(card, as), is ? card : KIND);
            due("status()", x.status(), is ? 0 : 3);
        }
    }

    private static CakeCards motherAnd(int[] daughter) {
        CakeCards x = withKitchen(KITCHEN);
        told(x, 1900, NONE, 5, 5, 5);
        told(x, 1900, 0, daughter);
        return x;
    }

    private static void kinds() {
        says("It is told as SUNK, else OWN, else WHOLE, else ILL, else MARRED: by this it is asked.");
        CakeCards x = motherAnd(new int[] {5, 5, 5});
        dueKind(x, 0, OWN);
        dueKind(x, 1, WHOLE);
        says("3 SUNK, a WHOLE one: it SINKS");
        dueKind(motherAnd(new int[] {3}), 1, WHOLE);
        dueKind(motherAnd(new int[] {2}), 1, SUNK);
        CakeCards sunk = withKitchen(KITCHEN);
        told(sunk, 1900, NONE, 2);
        told(sunk, 1900, NONE, 3);
        dueKind(sunk, 0, SUNK);
        dueKind(sunk, 1, OWN);
        says("1 WHOLE, a CARD: nothing STAINED; 2 MARRED, a CARD: something is");
        for (int mark = 0; mark < 11; mark++) {
            CakeCards y = motherAnd(new int[] {5, 5, 5});
            y.stain(1, mark);
            dueKind(y, 1, MARRED);
            y.stain(0, mark);
            dueKind(y, 0, MARRED);
        }
        dueKind(motherAnd(new int[] {-1, 0, 5}), 1, MARRED);
        CakeCards all = withKitchen(KITCHEN);
        told(all, 1900, NONE, all(-1));
        told(all, 1900, 0, all(-1));
        dueKind(all, 0, MARRED);
        dueKind(all, 1, MARRED);
        says("5 ILL, a MARRED one: it has a mother, of which it is UNLIKE in two MARKS or more");
        dueKind(motherAnd(new int[] {-1, 5, 5}), 1, MARRED);
        dueKind(motherAnd(new int[] {-1, 4, 5}), 1, MARRED);
        dueKind(motherAnd(new int[] {-1, 4, 4}), 1, ILL);
        dueKind(motherAnd(new int[] {-1, 4, 4, 1, 1, 1, 1, 1, 1, 1, 1}), 1, ILL);
        dueKind(motherAnd(new int[] {-1, -1, 4}), 1, MARRED);
        CakeCards none = withKitchen(KITCHEN);
        told(none, 1900, NONE, 5, 5, 5);
        told(none, 1900, NONE, -1, 1, 1);
        dueKind(none, 1, MARRED);
        CakeCards ill = motherAnd(new int[] {-1, 4, 4});
        ill.stain(0, 1);
        dueKind(ill, 1, MARRED);
    }

    private static void kindNumbers() {
        says("The KIND of a CARD, as it is told (1 to 5). BAD.");
        CakeCards x = motherAnd(new int[] {5, 5, 5});
        for (int card : NO_CARDS) {
            due("kind(" + card + ")", x.kind(card), BAD);
            due("as(" + card + ", 0)", x.as(card, 0), BAD);
            due("ask(" + card + ", 0)", x.ask(card, 0), BAD);
        }
        due("kind(2)", x.kind(2), BAD);
        says("A CARD is taken as one of a KIND (0 .. 5): the CARD's number. BAD; KIND: by what it is told as it is no such one (told as a KIND, it is what that is one of, too).");
        x.as(1, OWN);
        for (int kind : new int[] {-1, 6, NONE, MIN, MAX}) {
            due("as(1, " + kind + ")", x.as(1, kind), BAD);
            due("status() stays", x.status(), 3);
        }
        due("as(2, 0)", x.as(2, 0), BAD);
        due("no CARDS", new CakeCards().as(0, 0), BAD);
        due("no CARDS", new CakeCards().kind(0), BAD);
        due("no CARDS", new CakeCards().ask(0, 0), BAD);
    }

    // ---- ASKS

    private static void dueAsk(CakeCards x, int card, int what, long want, int... bodies) {
        due("ask(" + card + ", " + what + ")", x.ask(card, what), want);
        dueTrace(x, bodies);
    }

    private static void bodies() {
        says("Of an ask the BODY told for the KIND begins, else that of the nearest KIND that it is, too, else the one that is lent");
        CakeCards own = withKitchen(KITCHEN);
        told(own, 1800, NONE, 5);
        dueAsk(own, 0, 0, 1 + 0 + 1800, 11, 10, 21, 20);
        dueAsk(own, 0, 1, 1800, 21, 20);
        CakeCards x = motherAnd(new int[] {1, 1, 1, 1, 1, 1, 1, 1, 0, 0, 9});
        dueAsk(x, 1, 0, 8 + 1, 11, 10, 20);
        dueAsk(x, 1, 1, 1, 20);
        dueAsk(x, 0, 1, 1900, 21, 20);
        CakeCards sunk = motherAnd(new int[] {0, 2, 0, 0, 0, 0, 0, 0, 9, 99, 50});
        dueAsk(sunk, 1, 0, 2 * (1 + 1 + (2 - 90 - 99)), 12, 11, 10, 24, 20);
        dueAsk(sunk, 1, 1, 1 + (2 - 90 - 99), 24, 20);
        CakeCards marred = motherAnd(new int[] {-1, 5, 5, 0, 0, 0, 0, 0, -1, -1, -1});
        dueAsk(marred, 1, 0, 2 - 4, 13, 10);
        dueAsk(marred, 1, 1, 1 + (2 - 4), 22, 20, 13, 10);
        CakeCards ill = motherAnd(new int[] {-1, 4, 4, 1});
        dueAsk(ill, 1, 0, 3 - 1 + 100, 14, 13, 10);
        dueAsk(ill, 1, 1, -(1 + 3 - 1 + 100), 23, 22, 20, 14, 13, 10);
        says("how many THINGS are known to be there (STAINED ones not)");
        CakeCards none = motherAnd(all(-1));
        dueAsk(none, 1, 0, 0 - 11, 13, 10);
        dueAsk(none, 1, 1, 1 - 11, 22, 20, 13, 10);
        none.stain(0, 0);
        dueAsk(none, 0, 0, 2 - 1, 13, 10);
        CakeCards zero = withKitchen(PLAIN);
        told(zero, 2000, NONE);
        told(zero, 2000, 0);
        told(zero, 2000, NONE, 9999, 9999, 9999, 9999, 9999, 9999, 9999, 9999);
        dueAsk(zero, 0, 0, 2000, 11, 10, 21, 20);
        dueAsk(zero, 1, 0, 1, 11, 10, 20);
        dueAsk(zero, 2, 0, 8 + 2 + 2000, 11, 10, 21, 20);
        dueAsk(zero, 2, 1, 2002, 21, 20);
        // Of a SUNK one that has no mother the YEAR does not count: it is told as SUNK, not as OWN.
        CakeCards both = withKitchen(KITCHEN);
        told(both, 1900, NONE, 1);
        dueAsk(both, 0, 1, 1, 24, 20);
    }

    private static void traces() {
        says("THE TRACE is empty ahead of it (where that is refused it stays).");
        CakeCards x = motherAnd(new int[] {-1, 4, 4});
        dueTrace(x);
        due("refused", x.ask(2, 0), BAD);
        dueTrace(x);
        dueAsk(x, 1, 1, -(1 + 2 - 1 + 100), 23, 22, 20, 14, 13, 10);
        for (int what : new int[] {-1, 2, 10, NONE, MIN, MAX}) {
            due("ask(1, " + what + ")", x.ask(1, what), BAD);
        }
        for (int card : NO_CARDS) {
            due("ask(" + card + ")", x.ask(card, 1), BAD);
        }
        dueTrace(x, 23, 22, 20, 14, 13, 10);
        dueAsk(x, 0, 1, 1900, 21, 20);
        says("Number i of THE TRACE; NONE.");
        due("trace(0)", x.trace(0), 21);
        due("trace(1)", x.trace(1), 20);
        for (int i : new int[] {2, 15, 16, 17, -1, NONE, MIN, MAX}) {
            due("trace(" + i + ")", x.trace(i), NONE);
        }
        x.image(0);
        kitchen(x, PLAIN);
        x.restore(0);
        x.stain(0, 0);
        dueTrace(x, 21, 20);
    }

    // ---- counted

    private static void counts() {
        says("How many: 0 ROWS, 1 measures, 2 packets, 3 CARDS, 4 MARKS that are STAINED in all, 5 bytes on the tape. BAD.");
        CakeCards x = new CakeCards();
        for (int what : new int[] {-1, 6, 7, NONE, MIN, MAX}) {
            due("count(" + what + ")", x.count(what), BAD);
        }
        for (int row = 0; row < 8; row++) {
            due("count(0)", x.count(0), row);
            x.row(row, 0, 0);
            x.row(row, 0, 1);
        }
        due("count(0)", x.count(0), 8);
        kitchen(x, times("measure 0 1 1900 2;", 16) + times("packet 0 1900 1900;", 8) + PLAIN);
        due("count(1)", x.count(1), 16);
        due("count(2)", x.count(2), 8);
        for (int card = 0; card < 12; card++) {
            due("count(3)", x.count(3), card);
            due("count(4)", x.count(4), 11L * card);
            told(x, 1900, NONE, all(-1));
        }
        due("count(3)", x.count(3), 12);
        due("count(4)", x.count(4), 132);
        feed(x, times(" ", 500));
        due("count(5)", x.count(5), 500);
        x.card();
        due("FULL, the tape stays", x.count(5), 500);
        x.kitchen();
        due("faulty, the tape is empty", x.count(5), 0);
        due("the CARDS stay", x.count(4), 132);
        kitchen(x, PLAIN);
        int[] now = {8, 0, 0, 0, 0, 0};
        for (int what = 0; what < 6; what++) {
            due("count(" + what + ")", x.count(what), now[what]);
        }
    }

    private static void lastOfCalls() {
        says("An object is used for at most 512 calls after it has been made");
        CakeCards x = new CakeCards();
        // Four calls of feed, one of kitchen; then for each CARD one of row, eleven of set, one of told.
        kitchen(x, PLAIN);
        for (int card = 0; card < 12; card++) {
            told(x, 1900, NONE, one(0, card));
        }
        int calls = 5 + 12 * 13;
        for (int i = calls + 1; i < 512; i++) {
            due("trees", x.trees(63 << i % 7, 1), 945);
        }
        due("the 512th", x.mark(11, 0), 11);
    }

    public static void main(String[] args) {
        kinds();
        kindNumbers();
        bodies();
        traces();
        counts();
        lastOfCalls();
        end();
    }
}
