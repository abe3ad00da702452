import java.util.ArrayList;
import java.util.List;

/** The boundary cases of THE TAPE, its TOKENS, the texts and their FAULTS: promises 6 to 9. */
public final class TextEdgeTest extends Checks {
    private static final String CARD = "card 0 1900;";
    private static final String MEASURE = "measure 0 1 1900 2;";
    private static final String PACKET = "packet 0 1900 1900;";

    /** A place in a text: a word or sign, or a NUMBER from low to high, which may be a ? where it can be STAINED. */
    private static final class Slot {
        final String good;
        final int low;
        final int high;
        final boolean stains;
        /** Whether the text may end ahead of it. */
        final boolean optional;

        Slot(String good, int low, int high, boolean stains, boolean optional) {
            this.good = good;
            this.low = low;
            this.high = high;
            this.stains = stains;
            this.optional = optional;
        }

        boolean isNumber() {
            return high >= 0;
        }
    }

    private static final class Form {
        final List<Slot> slots = new ArrayList<>();
        final boolean isCard;

        Form(boolean isCard) {
            this.isCard = isCard;
        }

        Form word(String good) {
            slots.add(new Slot(good, -1, -1, false, false));
            return this;
        }

        Form line(String good) {
            slots.add(new Slot(good, -1, -1, false, true));
            return this;
        }

        Form number(int good, int low, int high) {
            slots.add(new Slot("" + good, low, high, false, false));
            return this;
        }

        Form mark(int good, int low, int high) {
            slots.add(new Slot("" + good, low, high, true, false));
            return this;
        }
    }

    private static Form kitchenForm() {
        Form form = new Form(false);
        form.word("measure").number(2, 0, 3).number(1, 0, 3).number(1900, 1800, 2000).number(50, 1, 99).word(";");
        form.word("packet").number(5, 0, 7).number(1850, 1800, 2000).number(2000, 1850, 2000).word(";");
        form.word("rise");
        for (int thing = 0; thing < 8; thing++) {
            form.number(thing, 0, 9);
        }
        return form.number(5, 0, 9).number(40, 0, 99).number(30, 0, 99).number(500, 0, 9999).word(";");
    }

    private static Form cardForm() {
        Form form = new Form(true);
        form.word("card").number(2, 0, 3).number(1950, 1800, 2000).word(";");
        form.line("add").number(5, 0, 7).mark(50, 1, 99).number(2, 0, 3).word(";");
        form.line("heat").mark(5, 0, 9).mark(40, 1, 99).word(";");
        return form.line("beat").mark(30, 1, 99).word(";");
    }

    /** A text made of TOKENS with blanks between, which knows where the TOKEN that is looked at begins. */
    private static final class Text {
        final StringBuilder text = new StringBuilder();
        int place;

        Text(Form form, int at, String instead, String blank, int tokens) {
            text.append(blank);
            for (int i = 0; i < tokens; i++) {
                if (i == at) {
                    place = text.length();
                }
                text.append(i == at ? instead : form.slots.get(i).good).append(blank);
            }
            if (at >= tokens) {
                place = text.length();
                text.append(instead);
            }
        }
    }

    private static CakeCards fresh() {
        return withKitchen("measure 3 3 1800 9;" + PLAIN);
    }

    private static long read(CakeCards x, Form form, String text) {
        return form.isCard ? card(x, text) : kitchen(x, text);
    }

    private static void dueRead(Form form, Text text) {
        CakeCards x = fresh();
        due("[" + text.text + "]", read(x, form, text.text.toString()), form.isCard ? 0 : 2);
        due("fault of [" + text.text + "]", x.fault(), 0);
        due("count(5)", x.count(5), 0);
    }

    private static void dueFault(boolean isCard, String text, int place, int number) {
        CakeCards x = fresh();
        card(x, CARD);
        due("[" + text + "]", isCard ? card(x, text) : kitchen(x, text), NOT - 100 - place);
        due("fault of [" + text + "]", x.fault(), number);
        due("the tape is empty: count(5)", x.count(5), 0);
        due("the KITCHEN stays: grains", x.grains(3, 3, 1800), 9);
        due("the measures stay: count(1)", x.count(1), 1);
        due("the packets stay: count(2)", x.count(2), 0);
        due("the CARDS stay: count(3)", x.count(3), 1);
    }

    private static void dueFault(Form form, Text text, int number) {
        dueFault(form.isCard, text.text.toString(), text.place, number);
    }

    private static final String[] NEVER = {"z", "cards", "heats", "rises", "measur", "ad", "00000", "10000", "99999",
        "18446744073709551616", "4294967296", "@", "A", "/", ":", "!", "" + (char) 0, "" + (char) 9, "" + (char) 13,
        "" + (char) 128, "" + (char) 160, "" + (char) 255, "" + (char) 127};
    private static final String[] SIGNS = {";", "?"};
    private static final String[] NUMBERS = {"0", "1", "1900", "0001"};
    private static final String[] WORDS = {"measure", "packet", "rise", "card", "add", "heat", "beat"};

    private static boolean isOneOf(String word, String... words) {
        return List.of(words).contains(word);
    }

    /** Whether a word stands where another word is due, too: at the head of a line. */
    private static boolean mayStand(Slot slot, String word) {
        return word.equals(slot.good)
            || isOneOf(slot.good, "add", "heat", "beat") && isOneOf(word, "add", "heat", "beat")
            || isOneOf(slot.good, "measure") && isOneOf(word, "packet", "rise")
            || isOneOf(slot.good, "packet") && isOneOf(word, "measure", "rise")
            || isOneOf(slot.good, "rise") && isOneOf(word, "packet");
    }

    private static void whatCannotStand(Form form, int at, String blank) {
        says("1 it cannot stand there, or is none (a run of five figures or more, at its first; the end: how many bytes there are)");
        Slot slot = form.slots.get(at);
        int tokens = form.slots.size();
        for (String token : NEVER) {
            dueFault(form, new Text(form, at, token, blank, tokens), 1);
        }
        for (String token : SIGNS) {
            if (!token.equals(slot.good) && !(slot.stains && token.equals("?"))) {
                dueFault(form, new Text(form, at, token, blank, tokens), 1);
            }
        }
        for (String token : WORDS) {
            if (!mayStand(slot, token)) {
                dueFault(form, new Text(form, at, token, blank, tokens), 1);
            }
        }
        for (String token : NUMBERS) {
            if (!slot.isNumber()) {
                dueFault(form, new Text(form, at, token, blank, tokens), 1);
            }
        }
    }

    private static void theEnd(Form form, int at, String blank) {
        says("the end: how many bytes there are");
        Text text = new Text(form, at, "", blank, at);
        if (form.slots.get(at).optional) {
            dueRead(form, text);
        } else {
            dueFault(form, text, 1);
        }
    }

    private static void whatIsNotAsTold(Form form, int at, String blank) {
        says("2 a NUMBER that is not as told");
        Slot slot = form.slots.get(at);
        int tokens = form.slots.size();
        if (!slot.isNumber()) {
            return;
        }
        for (int value : new int[] {slot.low - 1, slot.low - 2, 0, slot.high + 1, slot.high + 2, 9999, 256 + slot.low}) {
            boolean off = value >= 0 && (value < slot.low || value > slot.high);
            if (off && value <= 9999) {
                dueFault(form, new Text(form, at, "" + value, blank, tokens), 2);
            }
        }
        if (slot.high < 9999) {
            dueFault(form, new Text(form, at, String.format("%04d", slot.high + 1), blank, tokens), 2);
        }
        for (int value : new int[] {slot.low, slot.low + 1, slot.high - 1, slot.high}) {
            dueRead(form, new Text(form, at, "" + value, blank, tokens));
            dueRead(form, new Text(form, at, String.format("%04d", value), blank, tokens));
        }
        if (slot.stains) {
            dueRead(form, new Text(form, at, "?", blank, tokens));
        }
    }

    private static void eachPlace(Form form) {
        for (String blank : new String[] {" ", "\n", " \n  "}) {
            int tokens = form.slots.size();
            for (int at = 0; at < tokens; at++) {
                whatCannotStand(form, at, blank);
                theEnd(form, at, blank);
                whatIsNotAsTold(form, at, blank);
            }
            dueRead(form, new Text(form, tokens, "", blank, tokens));
            says("1 it cannot stand there");
            for (String token : NEVER) {
                dueFault(form, new Text(form, tokens, token, blank, tokens), 1);
            }
            for (String token : new String[] {";", "?", "0", "card", "rise", "measure", "packet"}) {
                dueFault(form, new Text(form, tokens, token, blank, tokens), 1);
            }
        }
    }

    private static void bytesThatAreNone() {
        for (int b = 0; b < 256; b++) {
            String sign = "" + (char) b;
            boolean letter = b >= 'a' && b <= 'z';
            boolean figure = b >= '0' && b <= '9';
            if (b == 32 || b == 10) {
                says("bytes 32 and 10 ahead of, between, behind these, as many as wanted");
                CakeCards x = new CakeCards();
                due("byte " + b, kitchen(x, (sign + PLAIN + sign).replace(" ", sign + sign).replace(";", sign + ";")), 0);
            } else {
                says("1 it cannot stand there, or is none");
                dueFault(false, sign + PLAIN, 0, 1);
                dueFault(true, "card 0 1900;" + sign, 12, 1);
                if (b != ';') {
                    dueFault(true, "card 0 1900" + sign, figure ? 7 : 11, 1);
                }
                says("NAMES (letters a to z), NUMBERS (figures, 4 at most)");
                dueFault(false, "rise" + sign + "?", letter ? 0 : figure ? 5 : 4, 1);
                dueFault(false, "rise 1" + sign + "?", figure ? 5 : 6, figure ? 2 : 1);
            }
        }
    }

    private static void numbers() {
        says("NUMBERS (figures, 4 at most)");
        CakeCards years = withKitchen(PLAIN);
        for (int year = 1800; year <= 2000; year++) {
            if (year % 10 == 0) {
                years = withKitchen(PLAIN);
            }
            due("card", card(years, "card 0 " + year + ";"), year % 10);
            due("its YEAR", years.of(year % 10, 1), year);
        }
        for (int least = 0; least <= 9999; least += 7) {
            CakeCards x = withKitchen("rise 1 1 1 1 1 1 1 1 0 0 0 " + least + ";");
            told(x, 1900, NONE, least);
            told(x, 1900, NONE, Math.max(0, least - 1));
            due("it does not sink by " + least, x.baked(0, 1), 0);
            due("it sinks by " + least, x.baked(1, 1), least == 0 ? 0 : 1);
        }
        says("a run of five figures or more, at its first");
        dueFault(true, "card 0 1900;add 0 00001 0;", 18, 1);
        dueFault(true, "card 0 1900;add 0 0001 00000;", 23, 1);
        dueFault(true, "card 0 01900;", 7, 1);
        dueFault(false, times("0", 500), 0, 1);
        dueFault(false, "rise " + times("1", 495), 5, 1);
    }

    private static void noBlanksNeeded() {
        says("(none is needed where one ends without)");
        CakeCards x = new CakeCards();
        due("kitchen", kitchen(x, "measure2 1 1900 5;packet7 1850 1850;rise0 1 2 3 4 5 6 7 8 99 98 9999;"), 2);
        due("card", card(x, "card1 1900;add2 3 2;add0?2;heat??;beat?;add7 99 0;"), 0);
        dueMarks(x, 0, NONE, 0, 15, 0, 0, 0, 0, 99, NONE, NONE, NONE);
        due("card", card(x, "card1 1900;heat?40;beat30;"), 1);
        dueMarks(x, 1, 0, 0, 0, 0, 0, 0, 0, 0, NONE, 40, 30);
        says("as many as wanted");
        due("blanks", kitchen(x, times(" ", 235) + "rise" + times("\n", 236) + PLAIN.substring(5)), 0);
        due("blanks behind", kitchen(x, PLAIN + times("\n", 471)), 0);
        due("blanks ahead", kitchen(x, times(" ", 471) + PLAIN), 0);
        dueFault(false, times(" ", 500), 500, 1);
        dueFault(false, times("\n", 499) + "x", 499, 1);
        dueFault(true, times(" ", 499) + ";", 499, 1);
        dueFault(true, CARD + times(" ", 487) + "?", 499, 1);
        dueFault(true, "card 0 1900" + times(" ", 489), 500, 1);
    }

    private static void feeding() {
        says("THE TAPE has at most 500 bytes");
        for (int n = 1; n <= 8; n++) {
            CakeCards x = new CakeCards();
            for (int i = 1; i <= 500 / n; i++) {
                due("feed(7, " + n + ")", x.feed(7, n), (long) i * n);
            }
            int has = 500 / n * n;
            due("feed(7, " + n + ")", x.feed(7, n), FULL);
            due("count(5)", x.count(5), has);
            for (int more = 8; more >= 1; more--) {
                due("feed(7, " + more + ") to " + has, x.feed(7, more), has + more <= 500 ? has + more : FULL);
                has = has + more <= 500 ? has + more : has;
            }
            due("count(5)", x.count(5), 500);
        }
        says("The lowest n bytes of w (1 to 8), the highest of them first, come behind the tape: how many it has. BAD: n; FULL: none comes.");
        CakeCards x = new CakeCards();
        for (int n : new int[] {0, -1, 9, 10, MIN, MAX}) {
            due("feed(1, " + n + ")", x.feed(1, n), BAD);
        }
        due("none came", x.count(5), 0);
        feed(x, times(" ", 500));
        for (int n : new int[] {0, 9}) {
            due("BAD ahead of FULL", x.feed(1, n), BAD);
        }
        due("FULL", x.feed(1, 1), FULL);
        due("the tape is as it was", x.kitchen(), NOT - 600);
        due("it is empty then", x.feed(0, 8), 8);
        bytesOfFeeds();
    }

    private static void bytesOfFeeds() {
        for (int n = 1; n <= 8; n++) {
            CakeCards x = new CakeCards();
            String text = "rise 12 ".substring(0, n);
            long w = -1;
            for (int i = 0; i < n; i++) {
                w = w << 8 | text.charAt(i);
            }
            due("feed of [" + text + "]", x.feed(w, n), n);
            feed(x, "rise 12 ".substring(n));
            due("the first that is off is 12", x.kitchen(), NOT - 105);
            due("fault()", x.fault(), 2);
        }
        CakeCards x = new CakeCards();
        x.feed(-1L, 8);
        due("bytes 255", x.kitchen(), NOT - 100);
        feed(x, "rise 1 1");
        x.feed(0xFF20312031203120L, 7);
        x.feed(0x3120302030203020L, 8);
        x.feed(0x7F7F7F7F7F7F303BL, 2);
        due("of one text, two NUMBERS short", x.kitchen(), NOT - 124);
        feed(x, "rise 1 1");
        x.feed(0xFF20312031203120L, 7);
        x.feed(0x3120312031203020L, 8);
        x.feed(0x7F7F30203020303BL, 6);
        due("of one text", x.kitchen(), 0);
    }

    private static void kitchensInPlace() {
        says("A KITCHEN that is read stands in place of the one before (none at first): no CARDS; IMAGES and ROWS stay.");
        CakeCards x = new CakeCards();
        due("none at first", x.grains(0, 0, 1800), STATE);
        due("a faulty one is none", kitchen(x, "rise"), NOT - 104);
        due("none at first", x.grains(0, 0, 1800), STATE);
        due("none at first", card(x, CARD), STATE);
        due("the tape stays", x.count(5), 12);
        due("faulty again", x.kitchen(), NOT - 100);
        due("none at first", x.image(0), STATE);
        due("first", kitchen(x, MEASURE + MEASURE + PACKET + PLAIN), 3);
        told(x, 1900, NONE, 1, -1);
        told(x, 1900, 0, 1);
        x.image(0);
        due("in place", kitchen(x, "measure 1 1 1800 3;rise 9 9 9 9 9 9 9 9 9 9 9 9;"), 1);
        due("measures", x.count(1), 1);
        due("packets", x.count(2), 0);
        due("no CARDS", x.count(3), 0);
        due("no STAINED MARKS", x.count(4), 0);
        due("no CARD 0", x.mark(0, 0), BAD);
        due("grains of before", x.grains(0, 1, 1900), 1);
        due("grains of now", x.grains(1, 1, 1900), 3);
        due("ROWS", x.count(0), 1);
        due("a ROW", x.drop(7), 11);
        due("an IMAGE", x.restore(0), 1);
        due("its CARDS", x.count(3), 2);
        due("its packets", x.count(2), 1);
        due("in place, none of each", kitchen(x, PLAIN), 0);
        due("measures", x.count(1), 0);
    }

    private static void measuresAndPackets() {
        says("of one MEASURE, LAND, YEAR the one told last holds");
        CakeCards x = new CakeCards();
        due("all count", kitchen(x, "measure 0 0 1900 9;measure 0 0 1900 7;measure 0 0 1900 8;" + PLAIN), 3);
        due("count(1)", x.count(1), 3);
        due("the last", x.grains(0, 0, 1900), 8);
        says("3 a measure, a packet more than there is room for (its word)");
        due("16 and 8", kitchen(x, times(MEASURE, 15) + "measure 3 3 2000 99;" + times(PACKET, 7) + "packet 7 1800 2000;" + PLAIN), 24);
        due("16", x.count(1), 16);
        due("8", x.count(2), 8);
        due("the 16th", x.grains(3, 3, 2000), 99);
        due("ahead of its YEAR", x.grains(3, 3, 1999), 1);
        told(x, 1900, NONE, one(7, 1));
        due("the 8th", x.years(0, 0), 1800);
        due("the 8th", x.years(0, 1), 2000);
        dueFault(false, times(MEASURE, 16) + "measure", 16 * 19, 3);
        dueFault(false, times(MEASURE, 17) + PLAIN, 16 * 19, 3);
        dueFault(false, times(MEASURE, 16) + "measure ? ?;", 16 * 19, 3);
        dueFault(false, times(MEASURE, 16) + " \nmeasure 9;", 16 * 19 + 2, 3);
        dueFault(false, times(MEASURE, 16) + "measures", 16 * 19, 1);
        dueFault(false, times(MEASURE, 16), 16 * 19, 1);
        dueFault(false, times(PACKET, 8) + "packet", 8 * 19, 3);
        dueFault(false, times(PACKET, 9) + PLAIN, 8 * 19, 3);
        dueFault(false, times(PACKET, 8) + "packet 9 1;", 8 * 19, 3);
        dueFault(false, times(PACKET, 8) + MEASURE, 8 * 19, 1);
        dueFault(false, times(MEASURE, 16) + times(PACKET, 9), 24 * 19, 3);
        dueFault(false, times(PACKET, 1) + times(MEASURE, 1), 19, 1);
        says("{ measure } { packet } rise.");
        due("measures alone", kitchen(x, MEASURE + PLAIN), 1);
        due("packets alone", kitchen(x, PACKET + PLAIN), 1);
        due("neither", kitchen(x, PLAIN), 0);
        dueFault(false, MEASURE + PACKET, 38, 1);
        dueFault(false, PLAIN + MEASURE, 29, 1);
        dueFault(false, PLAIN + PACKET, 29, 1);
        dueFault(false, PLAIN + PLAIN, 29, 1);
    }

    private static void tills() {
        says("(YEARS, TILL no less: sold in these; 8 at most)");
        for (int[] p : new int[][] {{1800, 1800}, {2000, 2000}, {1800, 2000}, {1900, 1901}}) {
            CakeCards x = withKitchen("packet 3 " + p[0] + " " + p[1] + ";" + PLAIN);
            told(x, 1900, NONE, one(3, 1));
            due("from", x.years(0, 0), p[0]);
            due("to", x.years(0, 1), p[1]);
        }
        dueFault(false, "packet 3 1801 1800;", 14, 2);
        dueFault(false, "packet 3 2000 1999;", 14, 2);
        dueFault(false, "packet 3 1900 1799;", 14, 2);
        dueFault(false, "packet 3 1900 2001;", 14, 2);
        dueFault(false, "packet 3 2001 2001;", 9, 2);
    }

    private static void linesOfCards() {
        says("A CARD's text: 'card' LAND YEAR ';' { line }.");
        CakeCards x = withKitchen("measure 0 0 1800 99;" + PLAIN);
        due("no line", card(x, CARD), 0);
        dueMarks(x, 0);
        due("every line", card(x, "card 0 1900;add 7 1 1;add 6 99 0;add 5 1 0;beat 99;add 4 2 0;add 3 3 0;heat 9 99;add 2 4 0;add 1 5 0;add 0 ? 0;"), 1);
        dueMarks(x, 1, NONE, 495, 396, 297, 198, 99, 9801, 1, 9, 99, 99);
        due("HEAT 0", card(x, "card 0 1900;heat 0 1;beat 1;"), 2);
        dueMarks(x, 2, 0, 0, 0, 0, 0, 0, 0, 0, 0, 1, 1);
        for (int amount = 1; amount <= 99; amount++) {
            CakeCards y = withKitchen("measure 0 0 1800 " + amount + ";" + PLAIN);
            card(y, "card 0 1900;add 3 " + amount + " 0;heat " + amount / 11 + " " + amount + ";beat " + amount + ";");
            dueMarks(y, 0, 0, 0, 0, amount * amount, 0, 0, 0, 0, amount / 11, amount, amount);
        }
        says("No THING twice, one 'heat', one 'beat' at most.");
        for (int thing = 0; thing < 8; thing++) {
            String line = "add " + thing + " 1 0;";
            dueFault(true, CARD + line + line, 12 + 10 + 4, 4);
            dueFault(true, CARD + "add " + thing + " ? 0;" + line, 12 + 10 + 4, 4);
            dueFault(true, CARD + line + "beat 1;add" + thing, 12 + 10 + 7 + 3, 4);
            dueFault(true, CARD + line + "add " + (thing + 1) % 8 + " 1 0;" + line, 12 + 20 + 4, 4);
        }
        says("a second 'heat', 'beat' (its word)");
        dueFault(true, CARD + "heat 0 1;heat", 21, 4);
        dueFault(true, CARD + "heat ? ?;heat 10;", 21, 4);
        dueFault(true, CARD + "heat 0 1;beat 1;heat 0 1;", 28, 4);
        dueFault(true, CARD + "beat 1;beat", 19, 4);
        dueFault(true, CARD + "beat ?;heat 1 1;add 0 1 0;beat", 38, 4);
        says("the first TOKEN that has one (its first byte), of one TOKEN the least");
        dueFault(true, CARD + "add 8 100 4;heat 10 0;", 16, 2);
        dueFault(true, CARD + "add 0 1 0;add 0 100;", 26, 4);
        dueFault(true, CARD + "add 0 100 0;add 0 1 0;", 18, 2);
        dueFault(true, CARD + "add 0 1 0;add 8 1 0;add 0 1 0;", 26, 2);
        dueFault(true, CARD + "beat 0 beat", 17, 2);
        dueFault(true, CARD + "add 0 1 0;add 00000 1 0;", 26, 1);
    }

    private static void twelveCards() {
        says("STATE: no KITCHEN; FULL: 12 (the tape stays with both)");
        CakeCards x = new CakeCards();
        due("no KITCHEN, nothing on the tape", x.card(), STATE);
        due("no KITCHEN", card(x, "card 0 1"), STATE);
        due("the tape stays", x.count(5), 8);
        due("STATE ahead of a FAULT: none is told", x.fault(), 0);
        x.kitchen();
        kitchen(x, PLAIN);
        for (int i = 0; i < 12; i++) {
            due("card " + i, card(x, CARD), i);
            due("without mother", x.of(i, 2), NONE);
        }
        due("the 13th", card(x, CARD), FULL);
        due("the tape stays", x.count(5), 12);
        due("still", x.card(), FULL);
        due("FULL ahead of a FAULT", card(x, "x"), FULL);
        due("the tape stays", x.count(5), 13);
        due("count(3)", x.count(3), 12);
        due("read as a KITCHEN", x.kitchen(), NOT - 100);
        due("the tape is empty", x.count(5), 0);
        due("FULL with an empty tape", x.card(), FULL);
    }

    private static void latestFault() {
        says("The number of the latest FAULT; 0 before one.");
        CakeCards x = new CakeCards();
        due("before one", x.fault(), 0);
        kitchen(x, PLAIN);
        due("before one", x.fault(), 0);
        kitchen(x, times(MEASURE, 17));
        due("3", x.fault(), 3);
        card(x, CARD + "beat 1;beat");
        due("4", x.fault(), 4);
        due("a card without", card(x, CARD), 0);
        due("4 still", x.fault(), 4);
        card(x, "card 9");
        due("2", x.fault(), 2);
        due("a kitchen without", kitchen(x, PLAIN), 0);
        due("2 still", x.fault(), 2);
        x.image(0);
        x.kitchen();
        due("1", x.fault(), 1);
        x.restore(0);
        due("1 still", x.fault(), 1);
    }

    public static void main(String[] args) {
        eachPlace(kitchenForm());
        eachPlace(cardForm());
        bytesThatAreNone();
        numbers();
        noBlanksNeeded();
        feeding();
        kitchensInPlace();
        measuresAndPackets();
        tills();
        linesOfCards();
        twelveCards();
        latestFault();
        end();
    }
}
