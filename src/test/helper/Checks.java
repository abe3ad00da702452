import java.io.IOException;
import java.nio.file.Files;
import java.nio.file.Path;
import java.util.Arrays;

/** What the tests share: the sentence that is tested, the answers that are due, texts for the tape, CARDS told by a ROW. */
abstract class Checks {
    // The numbers are written out as the document tells them: the class could have them wrong.
    static final int NONE = -1000000;
    static final long NOT = -9000000000000000000L;
    static final long BAD = -9000000000000000001L;
    static final long STATE = -9000000000000000002L;
    static final long FULL = -9000000000000000003L;
    static final long NULL = -9000000000000000011L;
    static final long PLACE = -9000000000000000012L;
    static final long KIND = -9000000000000000013L;
    static final long SIZE = -9000000000000000014L;
    static final long STORE = -9000000000000000015L;
    static final int MIN = Integer.MIN_VALUE;
    static final int MAX = Integer.MAX_VALUE;
    /** Each THING lifts by 1, HEAT 0, LONG 0, BEAT 0, LEAST 0. */
    static final String PLAIN = "rise 1 1 1 1 1 1 1 1 0 0 0 0;";

    private static final String DOC = read(Path.of("../shared/DOC.md"));
    private static String sentence = "";
    private static int answers;
    private static int wrong;

    private static String read(Path path) {
        try {
            return Files.readString(path);
        } catch (IOException e) {
            return "";
        }
    }

    /** The sentence of the document that the answers from here on are due by; a quote that went stale is told, no more. */
    static void says(String words) {
        sentence = words;
        if (!DOC.isEmpty() && !DOC.contains(words)) {
            System.out.println("the document does not say [" + words + "]");
        }
    }

    static void due(String call, long got, long want) {
        answers++;
        if (got != want) {
            wrong++;
            System.out.println("[" + sentence + "] " + call + " answered " + got + ", due is " + want);
        }
    }

    static void same(String call, String got, String want) {
        answers++;
        if (!got.equals(want)) {
            wrong++;
            System.out.println("[" + sentence + "] " + call + ":\n  is  " + got + "\n  due " + want);
        }
    }

    /** Ends the test: with exit code 1, if an answer was not the one that is due. */
    static void end() {
        System.out.println(wrong == 0 ? answers + " answers are as due" : wrong + " answers are not as due");
        if (wrong != 0 || answers == 0) {
            System.exit(1);
        }
    }

    static void feed(CakeCards x, String text) {
        for (int at = 0; at < text.length(); at += 8) {
            int n = Math.min(8, text.length() - at);
            long w = 0;
            for (int i = 0; i < n; i++) {
                w = w << 8 | text.charAt(at + i) & 255;
            }
            x.feed(w, n);
        }
    }

    static long kitchen(CakeCards x, String text) {
        feed(x, text);
        return x.kitchen();
    }

    static long card(CakeCards x, String text) {
        feed(x, text);
        return x.card();
    }

    static CakeCards withKitchen(String text) {
        CakeCards x = new CakeCards();
        kitchen(x, text);
        return x;
    }

    /** A CARD told by ROW 7: what is not told of its MARKS is 0. */
    static long told(CakeCards x, int year, int mother, int... marks) {
        x.row(7, 2, 11);
        for (int i = 0; i < marks.length; i++) {
            x.set(7, i, marks[i]);
        }
        return x.told(0, year, 7, 0, mother);
    }

    /** MARKS that are 0, but for one. */
    static int[] one(int mark, int value) {
        int[] marks = new int[11];
        marks[mark] = value;
        return marks;
    }

    static int[] all(int value) {
        int[] marks = new int[11];
        Arrays.fill(marks, value);
        return marks;
    }

    static void dueMarks(CakeCards x, int card, int... marks) {
        for (int i = 0; i < 11; i++) {
            due("mark(" + card + ", " + i + ")", x.mark(card, i), i < marks.length ? marks[i] : 0);
        }
    }

    static void dueTrace(CakeCards x, int... bodies) {
        for (int i = 0; i < 18; i++) {
            due("trace(" + i + ")", x.trace(i), i < bodies.length ? bodies[i] : NONE);
        }
        due("trace(-1)", x.trace(-1), NONE);
        due("trace(far)", x.trace(MAX), NONE);
        due("trace(low)", x.trace(MIN), NONE);
    }

    static String times(String text, int n) {
        return text.repeat(n);
    }
}
