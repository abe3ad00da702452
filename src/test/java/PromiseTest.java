/** Each promise by hand: ordinary inputs, the edges that the document names, wrong inputs. */
public final class PromiseTest extends Checks {
    private static void promise(int number) {
        says("## Promise " + number + ":");
    }

    private static void newObject() {
        promise(1);
        CakeCards x = new CakeCards();
        for (int i = 0; i < 6; i++) {
            due("count(" + i + ")", x.count(i), 0);
        }
        due("grains", x.grains(0, 0, 1800), STATE);
        due("fault", x.fault(), 0);
        due("status", x.status(), 0);
        due("trace", x.trace(0), NONE);
        due("NONE", CakeCards.NONE, -1000000);
        due("NOT", CakeCards.NOT, -9000000000000000000L);
    }

    private static void rows() {
        CakeCards x = new CakeCards();
        promise(2);
        due("row", x.row(0, 0, 40), 40);
        due("empty row", x.row(7, 2, 0), 0);
        due("41", x.row(0, 0, 41), BAD);
        due("-1", x.row(0, 0, -1), SIZE);
        due("status", x.status(), 4);
        due("lane 3", x.row(0, 3, -1), BAD);
        due("lane -1", x.row(0, -1, 1), BAD);
        due("row -1", x.row(-1, 0, 1), BAD);
        due("row 8", x.row(8, 0, 1), BAD);
        due("status stays", x.status(), 4);
        due("rows", x.count(0), 2);
        x.set(0, 3, 9);
        x.row(0, 0, 40);
        x.row(1, 0, 1);
        x.copy(0, 3, 1, 0, 1);
        due("anew 0", x.drop(0), 40);

        promise(3);
        x.row(0, 0, 3);
        x.row(1, 1, 3);
        x.row(2, 2, 3);
        due("byte", x.set(0, 2, 255), -1);
        due("byte", x.set(0, 2, -129), 127);
        due("short", x.set(1, 0, 32768), -32768);
        due("int", x.set(2, 0, MIN), MIN);
        due("place 3", x.set(0, 3, 1), PLACE);
        due("status", x.status(), 2);
        due("place -1", x.set(0, -1, 1), PLACE);
        due("fine", x.set(0, 0, 1), 1);
        due("status", x.status(), 0);
        due("null", x.set(3, 0, 1), NULL);
        due("status", x.status(), 1);
        due("bad", x.set(8, 0, 1), BAD);
        due("status", x.status(), 1);

        copies();

        promise(5);
        due("drop", x.drop(2), 3);
        due("status", x.status(), 0);
        due("gone", x.drop(2), NULL);
        due("bad", x.drop(-1), BAD);
        due("status", x.status(), 1);
    }

    private static void copies() {
        promise(4);
        CakeCards x = withKitchen(PLAIN);
        x.row(0, 1, 12);
        for (int i = 0; i < 8; i++) {
            x.set(0, i, i + 1);
        }
        due("over itself", x.copy(0, 0, 0, 1, 8), 8);
        due("told", x.told(0, 1900, 0, 0, NONE), 0);
        dueMarks(x, 0, 1, 1, 2, 3, 4, 5, 6, 7, 8);
        due("back", x.copy(0, 1, 0, 0, 8), 8);
        due("told", x.told(0, 1900, 0, 0, NONE), 1);
        dueMarks(x, 1, 1, 2, 3, 4, 5, 6, 7, 8, 8);
        x.row(1, 2, 3);
        x.row(2, 1, 3);
        due("none at the end", x.copy(0, 12, 2, 3, 0), 0);
        due("beyond", x.copy(0, 10, 2, 0, 3), PLACE);
        due("beyond", x.copy(0, 0, 2, 1, 3), PLACE);
        due("n -1", x.copy(0, 0, 2, 0, -1), PLACE);
        due("i -1", x.copy(0, -1, 2, 0, 1), PLACE);
        due("j -1", x.copy(0, 0, 2, -1, 1), PLACE);
        due("i far", x.copy(0, MAX, 2, 0, MAX), PLACE);
        due("i low", x.copy(0, MIN, 2, 0, MIN), PLACE);
        due("store ahead of place", x.copy(0, -1, 1, 0, 1), STORE);
        due("status", x.status(), 5);
        due("null ahead of store", x.copy(1, 0, 3, 0, 1), NULL);
        due("bad", x.copy(1, 0, 8, 0, 1), BAD);
        due("bad", x.copy(-1, 0, 3, 0, 1), BAD);
    }

    private static void feeding() {
        promise(6);
        CakeCards x = new CakeCards();
        due("n 0", x.feed(1, 0), BAD);
        due("n 9", x.feed(1, 9), BAD);
        due("3", x.feed(-1, 3), 3);
        for (int i = 0; i < 62; i++) {
            x.feed(-1, 8);
        }
        due("499", x.count(5), 499);
        due("full", x.feed(0, 2), FULL);
        due("none came", x.count(5), 499);
        due("500", x.feed(0, 1), 500);
        due("full", x.feed(0, 1), FULL);
        due("n ahead of full", x.feed(0, 9), BAD);
        due("order", kitchenOfTwoFeeds(), 0);
    }

    private static long kitchenOfTwoFeeds() {
        CakeCards x = new CakeCards();
        x.feed(0x7F7F7F7F72697365L, 4); // rise: the lowest four bytes
        feed(x, "0 0 0 0 0 0 0 0 0 0 0 0;");
        return x.kitchen();
    }

    private static void dueFault(String text, int place, int number) {
        CakeCards x = withKitchen(PLAIN);
        due("[" + text + "]", kitchen(x, text), NOT - 100 - place);
        due("fault of [" + text + "]", x.fault(), number);
        due("the tape is empty", x.count(5), 0);
        due("the KITCHEN stays", x.grains(0, 0, 1800), 1);
    }

    private static void kitchens() {
        promise(7);
        CakeCards x = new CakeCards();
        due("blanks", kitchen(x, " \n measure0 1\n1900 2 ;packet 3 1800 1800;\n" + PLAIN + " \n"), 2);
        due("measures", x.count(1), 1);
        due("packets", x.count(2), 1);
        card(x, "card 0 1900;");
        due("all measures", kitchen(x, times("measure 0 1 1900 2;", 16) + PLAIN), 16);
        due("no cards", x.count(3), 0);
        due("all packets", kitchen(x, times("packet 0 1900 1900;", 8) + PLAIN), 8);
        due("four figures", kitchen(x, "rise 0009 1 1 1 1 1 1 1 9 99 99 9999;"), 0);
        dueFault("", 0, 1);
        dueFault("  ", 2, 1);
        dueFault("rises 1", 0, 1);
        dueFault("Rise", 0, 1);
        dueFault("risez", 0, 1);
        dueFault("arise", 0, 1);
        dueFault("rise 00001 ", 5, 1);
        dueFault("rise 1 ? ", 7, 1);
        dueFault("rise 1 1 1 1 1 1 1 1 0 0 0 0", 28, 1);
        dueFault(PLAIN + " packet", 30, 1);
        dueFault(PLAIN + (char) 200, 29, 1);
        dueFault("packet 0 1900 1900;measure 0 0 1900 1;" + PLAIN, 19, 1);
        dueFault("measure 4 0 1900 1;", 8, 2);
        dueFault("measure 3 4 1900 1;", 10, 2);
        dueFault("measure 3 3 2001 1;", 12, 2);
        dueFault("measure 3 3 1800 100;", 17, 2);
        dueFault("measure 3 3 1800 0;", 17, 2);
        dueFault("packet 8 1900 1900;", 7, 2);
        dueFault("packet 7 1799 1900;", 9, 2);
        dueFault("packet 7 1900 1899;", 14, 2);
        dueFault("packet 7 1900 2001;", 14, 2);
        dueFault("rise 1 1 1 1 1 1 1 10", 19, 2);
        dueFault("rise 1 1 1 1 1 1 1 1 10", 21, 2);
        dueFault("rise 1 1 1 1 1 1 1 1 9 100", 23, 2);
        dueFault("rise 1 1 1 1 1 1 1 1 9 99 100", 26, 2);
        dueFault(times("measure 0 1 1900 2;", 17), 16 * 19, 3);
        dueFault(times("packet 0 1900 1900;", 9), 8 * 19, 3);
        CakeCards y = new CakeCards();
        due("none yet", kitchen(y, "x"), NOT - 100);
        due("still none", y.grains(0, 0, 1800), STATE);
    }

    private static void dueCardFault(String text, int place, int number) {
        CakeCards x = withKitchen(PLAIN);
        due("[" + text + "]", card(x, text), NOT - 100 - place);
        due("fault of [" + text + "]", x.fault(), number);
        due("the tape is empty", x.count(5), 0);
        due("no card", x.count(3), 0);
    }

    private static void cards() {
        promise(8);
        CakeCards x = new CakeCards();
        feed(x, "card 0 1900;");
        due("no kitchen", x.card(), STATE);
        due("the tape stays", x.count(5), 12);
        kitchen(x, "");
        kitchen(x, "measure 1 2 1900 10;measure 1 2 1950 20;measure 1 2 1950 30;" + PLAIN);
        due("card", card(x, "card 2 1949;add 0 99 1;add 7 ? 1;add 3 5 0;heat ? 5;beat ?;"), 0);
        dueMarks(x, 0, 990, 0, 0, 5, 0, 0, 0, NONE, NONE, 5, NONE);
        due("the last told holds", card(x, "card 2 1950;add 0 99 1;heat 0 ?;beat 99;"), 1);
        dueMarks(x, 1, 2970, 0, 0, 0, 0, 0, 0, 0, 0, NONE, 99);
        due("mother", x.of(1, 2), NONE);
        due("land", x.of(1, 0), 2);
        due("land 3, another measure", card(x, "card3 2000;add 1 2 3;"), 2);
        dueMarks(x, 2, 0, 2);
        for (int i = 3; i < 12; i++) {
            due("card", card(x, "card 0 1900;"), i);
        }
        feed(x, "card 0 19");
        due("full", x.card(), FULL);
        due("the tape stays", x.count(5), 9);
        dueCardFault("", 0, 1);
        dueCardFault("card 4 1900;", 5, 2);
        dueCardFault("card 0 1799;", 7, 2);
        dueCardFault("card 0 1900", 11, 1);
        dueCardFault("card 0 1900;bake", 12, 1);
        dueCardFault("card 0 1900;add 8 1 0;", 16, 2);
        dueCardFault("card 0 1900;add ? 1 0;", 16, 1);
        dueCardFault("card 0 1900;add 1 0 0;", 18, 2);
        dueCardFault("card 0 1900;add 1 100 0;", 18, 2);
        dueCardFault("card 0 1900;add 1 ? ?;", 20, 1);
        dueCardFault("card 0 1900;add 1 1 4;", 20, 2);
        dueCardFault("card 0 1900;add 1 ? 0;add 1 1 0;", 26, 4);
        dueCardFault("card 0 1900;heat 10 1;", 17, 2);
        dueCardFault("card 0 1900;heat 9 0;", 19, 2);
        dueCardFault("card 0 1900;heat 9 ?;heat", 21, 4);
        dueCardFault("card 0 1900;beat 0;", 17, 2);
        dueCardFault("card 0 1900;beat ?;beat 100;", 19, 4);

        promise(9);
        due("fault stays", card(x = withKitchen("rise 10"), ""), STATE);
        due("fault", x.fault(), 2);
        kitchen(x, PLAIN);
        due("after one without", x.fault(), 2);
    }

    private static void tellings() {
        promise(10);
        CakeCards x = new CakeCards();
        due("no kitchen", x.told(0, 1900, 0, 0, NONE), STATE);
        due("bad ahead", x.told(0, 1900, 8, 0, NONE), BAD);
        kitchen(x, PLAIN);
        due("null", x.told(3, 2000, 0, -1, NONE), NULL);
        due("status", x.status(), 1);
        x.row(0, 2, 12);
        due("place", x.told(3, 2000, 0, -1, NONE), PLACE);
        due("place", x.told(3, 2000, 0, 2, NONE), PLACE);
        due("place", x.told(3, 2000, 0, MAX, NONE), PLACE);
        due("status", x.status(), 2);
        x.set(0, 0, -2);
        x.set(0, 1, 9999);
        x.set(0, 8, -1);
        x.set(0, 9, 9);
        x.set(0, 10, 99);
        x.set(0, 11, 99);
        x.drop(5);
        due("item -2", x.told(3, 2000, 0, 0, NONE), BAD);
        due("status stays", x.status(), 1);
        due("told", x.told(3, 1950, 0, 1, NONE), 0);
        due("status", x.status(), 0);
        dueMarks(x, 0, 9999, 0, 0, 0, 0, 0, 0, NONE, 9, 99, 99);
        x.set(0, 1, 10000);
        due("10000", x.told(3, 1950, 0, 1, NONE), BAD);
        x.set(0, 1, 0);
        x.set(0, 9, 10);
        due("HEAT 10", x.told(3, 1950, 0, 1, NONE), BAD);
        x.set(0, 9, 0);
        x.set(0, 10, 100);
        due("LONG 100", x.told(3, 1950, 0, 1, NONE), BAD);
        x.set(0, 10, 0);
        x.set(0, 11, 100);
        due("BEAT 100", x.told(3, 1950, 0, 1, NONE), BAD);
        x.set(0, 11, 0);
        due("land", x.told(4, 1950, 0, 1, NONE), BAD);
        due("year", x.told(0, 2001, 0, 1, NONE), BAD);
        due("row", x.told(0, 1950, -1, 1, NONE), BAD);
        due("mother 1", x.told(0, 1950, 0, 1, 1), BAD);
        due("mother -1", x.told(0, 1950, 0, 1, -1), BAD);
        due("mother of a greater year", x.told(0, 1949, 0, 1, 0), BAD);
        for (int i = 1; i < 12; i++) {
            due("told", x.told(0, 1950, 0, 1, 0), i);
        }
        due("full ahead of null", x.told(0, 1950, 6, 1, 0), FULL);
        due("daughters", x.of(0, 4), 11);
    }

    private static void copying() {
        promise(11);
        CakeCards x = withKitchen(PLAIN);
        told(x, 1900, NONE, 7, -1, 5000, 4999, 5001, 0, 0, 0, 8, 9, 3);
        due("as it is", x.copied(0, 1, 1900, 0, 0, 0), 1);
        dueMarks(x, 1, 7, NONE, 5000, 4999, 5001, 0, 0, 0, 8, 9, 3);
        due("mother", x.of(1, 2), 0);
        due("land", x.of(1, 0), 1);
        due("a STAINED one lost", x.copied(0, 1, 1950, 1, 1, 0), 2);
        due("it is 0", x.mark(2, 1), 0);
        due("doubled", x.copied(0, 1, 1950, 2, 3, 0), 3);
        due("9998", x.mark(3, 3), 9998);
        due("too much", x.copied(0, 1, 1950, 2, 2, 0), STATE);
        due("a STAINED one doubled", x.copied(0, 1, 1950, 2, 1, 0), 4);
        due("it stays so", x.mark(4, 1), NONE);
        due("by 2", x.copied(0, 1, 1950, 3, 0, 0), 5);
        due("cut", x.mark(5, 0), 3);
        due("swapped", x.copied(0, 1, 1950, 4, 3, 2), 6);
        due("b", x.mark(6, 2), 9999);
        due("a", x.mark(6, 3), 0);
        due("too much", x.copied(0, 1, 1950, 4, 4, 2), STATE);
        due("b with a STAINED a", x.copied(0, 1, 1950, 4, 1, 2), 7);
        due("b", x.mark(7, 2), NONE);
        due("a", x.mark(7, 1), 0);
        due("HEAT", x.copied(0, 1, 1950, 5, 0, 0), 8);
        due("9", x.mark(8, 8), 9);
        due("HEAT again", x.copied(8, 1, 1950, 5, 0, 0), 9);
        due("9 at most", x.mark(9, 8), 9);
        due("LONG", x.copied(0, 1, 1950, 6, 0, 0), 10);
        due("4", x.mark(10, 9), 4);
        due("LONG again", x.copied(10, 1, 1950, 6, 0, 0), 11);
        due("0 at least", x.mark(11, 9), 0);
        due("state ahead of full", x.copied(0, 1, 1950, 2, 2, 0), STATE);
        due("full", x.copied(0, 1, 1950, 0, 0, 0), FULL);
        due("earlier", x.copied(3, 1, 1949, 0, 0, 0), BAD);
        due("card", x.copied(12, 1, 1950, 0, 0, 0), BAD);
        due("land", x.copied(0, 4, 1950, 0, 0, 0), BAD);
        due("year", x.copied(0, 0, 2001, 0, 0, 0), BAD);
        due("law 7", x.copied(0, 0, 1950, 7, 0, 0), BAD);
        due("law -1", x.copied(0, 0, 1950, -1, 0, 0), BAD);
        due("a 8", x.copied(0, 0, 1950, 0, 8, 0), BAD);
        due("b -1", x.copied(0, 0, 1950, 0, 0, -1), BAD);
        due("alike", x.copied(0, 0, 1950, 4, 3, 3), BAD);
    }

    private static void reading() {
        CakeCards x = withKitchen("measure 3 1 1850 7;" + PLAIN);
        told(x, 1900, NONE, 7, -1, -1);
        told(x, 1901, 0, 7, 2);
        promise(12);
        due("mark", x.mark(0, 0), 7);
        due("stained", x.mark(0, 1), NONE);
        due("mark 11", x.mark(0, 11), BAD);
        due("mark -1", x.mark(0, -1), BAD);
        due("card 2", x.mark(2, 0), BAD);
        due("card -1", x.mark(-1, 0), BAD);
        promise(13);
        due("year", x.of(0, 1), 1900);
        due("mother", x.of(0, 2), NONE);
        due("mother", x.of(1, 2), 0);
        due("stained", x.of(0, 3), 2);
        due("daughters", x.of(0, 4), 1);
        due("what 5", x.of(0, 5), BAD);
        due("what -1", x.of(0, -1), BAD);
        due("card", x.of(2, 0), BAD);
        promise(14);
        due("stain", x.stain(1, 1), 1);
        due("again", x.stain(1, 1), 0);
        due("it is", x.mark(1, 1), NONE);
        due("in all", x.count(4), 3);
        due("mark", x.stain(1, 11), BAD);
        due("card", x.stain(2, 1), BAD);
        promise(15);
        due("before", x.grains(3, 1, 1849), 1);
        due("from then on", x.grains(3, 1, 1850), 7);
        due("later", x.grains(3, 1, 2000), 7);
        due("another land", x.grains(3, 2, 2000), 1);
        due("measure", x.grains(4, 1, 1850), BAD);
        due("land", x.grains(3, -1, 1850), BAD);
        due("year", x.grains(3, 1, 1799), BAD);
    }

    private static void baking() {
        promise(16);
        CakeCards x = withKitchen("rise 1 2 3 0 0 0 0 9 5 40 10 50;");
        told(x, 1900, NONE, 10, 10, 10, 0, 0, 0, 0, 0, 5, 40, 50);
        told(x, 1900, NONE, 1, -1, 0, 0, 0, 0, 0, 0, 7, 37, -1);
        due("unlike", x.unlike(0, 1), 4);
        due("itself", x.unlike(1, 1), 0);
        due("bad", x.unlike(0, 2), BAD);
        due("bad", x.unlike(-1, 0), BAD);
        promise(17);
        due("rise, BEAT at most", x.baked(0, 0), 70);
        due("it does not sink", x.baked(0, 1), 0);
        due("off", x.baked(1, 0), 1 - 20 - 3);
        due("it sinks", x.baked(1, 1), 1);
        due("what", x.baked(1, 2), BAD);
        due("card", x.baked(2, 0), BAD);
        promise(18);
        due("set", x.blame(0, 1, 0), 1 << 2);
        due("how many", x.blame(0, 1, 1), 1);
        due("sets", x.blame(0, 1, 2), 1);
        due("the other way", x.blame(1, 0, 0), STATE);
        due("one that rises", x.blame(0, 0, 0), STATE);
        due("what ahead", x.blame(1, 0, 3), BAD);
        due("card", x.blame(0, 2, 0), BAD);
        told(x, 1900, NONE, 10, 10, 10, 0, 0, 0, 0, 0, -1, 40, 50);
        due("STAINED counts as 0", x.baked(2, 0), 20);
        due("none", x.blame(0, 2, 0), NONE);
        due("none", x.blame(0, 2, 1), NONE);
        due("none", x.blame(0, 2, 2), 0);
        told(x, 1900, NONE, 0, 5, 5, 0, 0, 0, 0, 0, 5, 40, 50);
        due("pairs of two: 0 and 2, 1 and 2", x.blame(0, 3, 0), 5);
        due("two", x.blame(0, 3, 1), 2);
        due("sets", x.blame(0, 3, 2), 2);
    }

    private static void kin() {
        CakeCards x = withKitchen(PLAIN);
        promise(19);
        due("no cards", x.mothers(0), STATE);
        due("what ahead", x.mothers(2), BAD);
        promise(29);
        due("no cards", x.book(0), STATE);
        told(x, 1910, NONE, 1, 1, 1, 1);
        promise(19);
        due("one card", x.mothers(0), 0);
        due("one row", x.mothers(1), 1);
        promise(21);
        told(x, 1900, NONE, 1, 1);
        due("the one earlier", x.two(0, 0), NONE);
        told(x, 1900, NONE, 0, 0, 1, 1);
        told(x, 1910, NONE, 1, 1, -1, 1, 9);
        // By years: 1, 2 (1900), 0, 3 (1910).
        promise(19);
        due("4 of 2, 2 of 0 from 1 or 2, 1 of 3 from 0", x.mothers(0), 4 + 2 + 1 + 0);
        due("rows", x.mothers(1), 2);
        due("what", x.mothers(-1), BAD);
        promise(20);
        due("first", x.mother(1), NONE);
        due("of one year, by number", x.mother(2), 1);
        due("least of two", x.mother(0), 1);
        due("near", x.mother(3), 0);
        due("bad", x.mother(4), BAD);
        promise(21);
        due("the first one", x.two(1, 0), NONE);
        due("the second one", x.two(2, 1), NONE);
        due("1 has two, 2 the others", x.two(0, 0), 1);
        due("lesser", x.two(0, 1), 1);
        due("greater", x.two(0, 2), 2);
        due("9 has none of them", x.two(3, 0), 2);
        due("the first pair", x.two(3, 1), 0);
        due("the first pair", x.two(3, 2), 1);
        due("what", x.two(3, 3), BAD);
        due("card", x.two(4, 0), BAD);
    }

    private static void trees() {
        CakeCards x = withKitchen(PLAIN);
        told(x, 1900, NONE, 5, 3, 0, -1);
        told(x, 1900, NONE, 5, 2, 0, -1);
        told(x, 1900, NONE, 4, 1, -1, -1);
        told(x, 1900, NONE, 4, 1, -1, -1);
        promise(22);
        due("two", x.trees(3, 0), 1);
        due("one", x.trees(3, 1), 1);
        due("all", x.trees(3, 2), 1);
        // Mark 0 parts 0, 1 from 2, 3; mark 1 changes twice at least, in each of the 15.
        due("four", x.trees(15, 0), 3);
        due("those in which 0, 1 stand apart from 2, 3: one of three, rooted at five branches", x.trees(15, 1), 5);
        due("all", x.trees(15, 2), 15);
        due("one card", x.trees(4, 0), BAD);
        due("none", x.trees(0, 0), BAD);
        due("no such card", x.trees(17, 0), BAD);
        due("below", x.trees(MIN, 0), BAD);
        due("what", x.trees(3, 3), BAD);
        promise(23);
        due("none is in all of them", x.sure(15, -1), 0);
        due("not so many", x.sure(15, 0), NONE);
        due("not so many", x.sure(15, MAX), NONE);
        due("i", x.sure(15, -2), BAD);
        due("set", x.sure(1, -1), BAD);
        promise(24);
        due("may", x.first(15, 0, -1), 2);
        due("rising", x.first(15, 0, 0), 4);
        due("rising", x.first(15, 0, 1), 5);
        due("not so many", x.first(15, 0, 2), NONE);
        due("three values", x.first(15, 1, -1), 3);
        due("rising", x.first(15, 1, 2), 3);
        due("must", x.first(15, 2, -1), 1);
        due("0 is a value", x.first(15, 2, 0), 0);
        due("known in none", x.first(15, 3, -1), 0);
        due("known in none", x.first(15, 3, 0), NONE);
        due("i", x.first(15, 3, -2), BAD);
        due("mark", x.first(15, 11, 0), BAD);
        due("set", x.first(16, 0, 0), BAD);
        promise(22);
        x.stain(0, 0);
        x.stain(1, 0);
        due("anew after a stain", x.trees(15, 0), 2);
        due("anew after a stain", x.trees(15, 1), 15);
        for (int i = 4; i < 8; i++) {
            told(x, 1900, NONE, i);
        }
        due("six", x.trees(63, 2), 945);
        due("seven", x.trees(127, 2), BAD);
    }

    private static void yearsAndThings() {
        promise(25);
        CakeCards x = withKitchen("packet 0 1850 1900;packet 0 1860 1890;packet 1 1890 1950;packet 2 1891 1892;" + PLAIN);
        told(x, 1900, NONE, 1);
        told(x, 1900, NONE, 1, 1, -1);
        told(x, 1900, NONE, 1, 0, 1);
        told(x, 1900, NONE, 0, 0, 0, 1);
        due("from", x.years(0, 0), 1860);
        due("to", x.years(0, 1), 1890);
        due("one year", x.years(1, 0), 1890);
        due("one year", x.years(1, 1), 1890);
        due("nothing in all", x.years(2, 0), NONE);
        due("no packet", x.years(3, 0), NONE);
        due("what", x.years(0, 2), BAD);
        due("card", x.years(4, 0), BAD);

        promise(26);
        x = withKitchen(PLAIN);
        told(x, 1900, NONE, 5, 5, -1, 0);
        told(x, 1900, 0, 0, 0, 0, 0);
        due("none comes from it", x.left(1, 0), 0);
        due("the mother's is STAINED", x.left(1, 2), NONE);
        due("the mother has it not", x.left(1, 3), NONE);
        due("no mother", x.left(0, 3), NONE);
        told(x, 1900, 1, 0, 0);
        told(x, 1900, 2, 0, 7);
        told(x, 1900, 0, 0, 7);
        due("two come from it", x.left(1, 0), 2);
        due("one has it again", x.left(1, 1), NONE);
        due("its daughter has it", x.left(2, 1), NONE);
        promise(27);
        due("81", x.chance(1, 0, 9), 81);
        due("4", x.chance(1, 0, 2), 4);
        due("1", x.chance(4, 0, 2), 1);
        due("not left out", x.chance(1, 1, 2), NONE);
        due("l", x.chance(1, 0, 1), BAD);
        due("l", x.chance(1, 0, 10), BAD);
        due("thing", x.chance(1, 8, 2), BAD);
        due("card", x.chance(5, 0, 2), BAD);
        promise(26);
        x.stain(3, 0);
        due("one is STAINED", x.left(1, 0), NONE);
        due("thing", x.left(1, 8), BAD);
        due("card", x.left(5, 0), BAD);
        CakeCards y = withKitchen(PLAIN);
        told(y, 1900, NONE, 5);
        for (int i = 0; i < 11; i++) {
            told(y, 1900, i);
        }
        promise(27);
        due("9 by itself ten times", y.chance(1, 0, 9), 3486784401L);
    }

    private static void mending() {
        promise(28);
        CakeCards x = withKitchen(PLAIN);
        told(x, 1900, NONE, -1, -1, -1, -1, -1, -1, -1, 7);
        told(x, 1900, NONE, 1, 2, 9, 1, -1, -1, 0, 1);
        told(x, 1900, NONE, 1, 9, 2, 2, -1, 3, 0, 1);
        told(x, 1900, NONE, 1, 2, 2, 3, -1, -1, -1, 1);
        due("alike", x.mend(0, 1, 2, 1), BAD);
        due("itself", x.mend(0, 1, 0, 2), BAD);
        due("no such", x.mend(0, 1, 2, 4), BAD);
        due("four", x.mend(0, 1, 2, 3), 4);
        dueMarks(x, 0, 1, 2, 2, NONE, NONE, NONE, 0, 7);
        due("none more", x.mend(0, 3, 2, 1), 0);

        promise(29);
        due("all", x.book(0), 15);
        due("11", x.book(11), 1);
        due("2: 0 is near to 1, 2, 3", x.book(2), 1);
        due("d -1", x.book(-1), BAD);
        due("d 12", x.book(12), BAD);
        CakeCards y = withKitchen(PLAIN);
        told(y, 1900, NONE, 1);
        told(y, 1900, NONE, 2);
        told(y, 1900, NONE, 2, 1);
        told(y, 1900, NONE, 2, 1);
        due("0 or 1 by two sets: the least", y.book(1), 2);
        due("by 0", y.book(0), 7);
        CakeCards z = withKitchen(PLAIN);
        for (int i = 0; i < 12; i++) {
            told(z, 1900, NONE, i);
        }
        due("all twelve", z.book(0), 4095);
        due("any one", z.book(1), 1);
    }

    private static void images() {
        promise(30);
        CakeCards x = new CakeCards();
        due("no kitchen", x.image(0), STATE);
        due("k ahead", x.image(2), BAD);
        kitchen(x, "measure 0 0 1800 9;" + PLAIN);
        told(x, 1900, NONE, 1, -1);
        told(x, 1901, 0, 2);
        due("image", x.image(1), 1);
        due("k", x.image(-1), BAD);
        promise(31);
        due("none was kept", x.restore(0), STATE);
        due("k", x.restore(2), BAD);
        x.stain(0, 0);
        kitchen(x, PLAIN);
        told(x, 1950, NONE, 5);
        due("gone", x.grains(0, 0, 1800), 1);
        due("restore", x.restore(1), 1);
        due("measure", x.grains(0, 0, 1800), 9);
        due("cards", x.count(3), 2);
        due("mother", x.of(1, 2), 0);
        dueMarks(x, 0, 1, NONE);
        x.stain(0, 0);
        due("again", x.restore(1), 1);
        due("an IMAGE is not what it was kept of", x.mark(0, 0), 1);
        promise(30);
        x.stain(0, 0);
        due("in place", x.image(1), 1);
        x.restore(1);
        due("the newer", x.mark(0, 0), NONE);
        due("rows stay", x.count(0), 1);
    }

    private static CakeCards ofAllKinds() {
        CakeCards x = withKitchen("rise 1 1 1 1 1 1 1 1 0 0 0 3;");
        told(x, 1900, NONE, 1, 2); // 0 OWN
        told(x, 1901, 0, 1, 1, 1); // 1 WHOLE
        told(x, 1901, NONE, 2); // 2 SUNK
        told(x, 1901, NONE, -1, 2, 1); // 3 MARRED
        told(x, 1901, 0, 2, 9, -1); // 4 ILL
        told(x, 1901, 0, 2, 2, -1); // 5 MARRED: UNLIKE in one
        return x;
    }

    private static void kinds() {
        CakeCards x = ofAllKinds();
        int[] kinds = {4, 1, 3, 2, 5, 2};
        String[] also = {"014", "01", "013", "02", "025", "02"};
        for (int c = 0; c < 6; c++) {
            promise(32);
            due("kind(" + c + ")", x.kind(c), kinds[c]);
            promise(33);
            for (int k = 0; k < 6; k++) {
                boolean is = also[c].indexOf('0' + k) >= 0;
                due("as(" + c + ", " + k + ")", x.as(c, k), is ? c : KIND);
                due("status", x.status(), is ? 0 : 3);
            }
        }
        due("kind 6", x.as(0, 6), BAD);
        due("kind -1", x.as(0, -1), BAD);
        due("card", x.as(6, 0), BAD);
        due("status stays", x.status(), 3);
        promise(32);
        due("card", x.kind(6), BAD);
        due("card", x.kind(-1), BAD);

        promise(34);
        due("SIZE of OWN", x.ask(0, 0), 2 + 0 + 1900);
        dueTrace(x, 11, 10, 21, 20);
        due("MARK of OWN", x.ask(0, 1), 1900);
        dueTrace(x, 21, 20);
        due("SIZE of WHOLE", x.ask(1, 0), 3 + 1);
        dueTrace(x, 11, 10, 20);
        due("MARK of WHOLE", x.ask(1, 1), 1);
        dueTrace(x, 20);
        due("SIZE of SUNK", x.ask(2, 0), 2 * (1 + 2 + 2));
        dueTrace(x, 12, 11, 10, 24, 20);
        due("MARK of SUNK", x.ask(2, 1), 2 + 2);
        dueTrace(x, 24, 20);
        due("SIZE of MARRED", x.ask(3, 0), 2 - 1);
        dueTrace(x, 13, 10);
        due("MARK of MARRED", x.ask(3, 1), 3 + 1);
        dueTrace(x, 22, 20, 13, 10);
        due("SIZE of ILL", x.ask(4, 0), 2 - 1 + 100);
        dueTrace(x, 14, 13, 10);
        due("MARK of ILL", x.ask(4, 1), -(4 + 101));
        dueTrace(x, 23, 22, 20, 14, 13, 10);
        due("what", x.ask(4, 2), BAD);
        due("what", x.ask(4, -1), BAD);
        due("card", x.ask(6, 0), BAD);
        dueTrace(x, 23, 22, 20, 14, 13, 10);
    }

    private static void counts() {
        promise(36);
        CakeCards x = withKitchen("measure 0 0 1800 9;measure 0 0 1800 8;packet 0 1800 1800;" + PLAIN);
        told(x, 1900, NONE, -1, -1);
        told(x, 1900, NONE, -1);
        x.row(0, 0, 0);
        x.feed(0, 3);
        int[] counts = {2, 2, 1, 2, 3, 3};
        for (int i = 0; i < 6; i++) {
            due("count(" + i + ")", x.count(i), counts[i]);
        }
        due("what", x.count(6), BAD);
        due("what", x.count(-1), BAD);
        promise(37);
        due("null", x.drop(5), NULL);
        x.unlike(0, 1);
        x.feed(0, 9);
        x.row(0, 3, 3);
        due("status stays", x.status(), 1);
        due("as", x.as(0, 3), KIND);
        due("status", x.status(), 3);
        due("as", x.as(0, 0), 0);
        due("status", x.status(), 0);
    }

    public static void main(String[] args) {
        newObject();
        rows();
        feeding();
        kitchens();
        cards();
        tellings();
        copying();
        reading();
        baking();
        kin();
        trees();
        yearsAndThings();
        mending();
        images();
        kinds();
        counts();
        end();
    }
}
