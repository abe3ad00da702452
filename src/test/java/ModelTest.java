import java.util.ArrayList;
import java.util.Arrays;
import java.util.List;
import java.util.Random;
import java.util.TreeMap;
import java.util.TreeSet;
import java.util.regex.Matcher;
import java.util.regex.Pattern;

/** Runs of random calls, answered by CakeCards and by a slow model that is written from the document anew. */
public final class ModelTest {
    static final int NONE = -1000000;
    static final long NOT = -9000000000000000000L;
    static final long BAD = NOT - 1;
    static final long STATE = NOT - 2;
    static final long FULL = NOT - 3;

    static final class Card implements Cloneable {
        int land;
        int year;
        int mother = NONE;
        Integer[] marks = new Integer[11]; // null: STAINED

        Card same() {
            Card c = new Card();
            c.land = land;
            c.year = year;
            c.mother = mother;
            c.marks = marks.clone();
            return c;
        }
    }

    static final class Kitchen {
        List<int[]> measures = new ArrayList<>();
        List<int[]> packets = new ArrayList<>();
        int[] rise = new int[12];
    }

    static final class Fault extends RuntimeException {
        final int number;
        final int place;

        Fault(int number, int place) {
            this.number = number;
            this.place = place;
        }
    }

    static final class Token {
        String text;
        int place;
        boolean none;
    }

    static final class Text {
        final List<Token> tokens = new ArrayList<>();
        int at;

        Text(String tape) {
            Matcher m = Pattern.compile("[a-z]+|[0-9]+|[;?]|[ \n]+|[^ \n]").matcher(tape);
            while (m.find()) {
                String t = m.group();
                if (t.charAt(0) == ' ' || t.charAt(0) == '\n') {
                    continue;
                }
                Token k = new Token();
                k.text = t;
                k.place = m.start();
                k.none = !t.matches("[a-z]+|[0-9]{1,4}|[;?]");
                tokens.add(k);
            }
            Token end = new Token();
            end.text = "";
            end.place = tape.length();
            tokens.add(end);
        }

        Token here() {
            return tokens.get(at);
        }

        boolean is(String t) {
            return !here().none && here().text.equals(t);
        }

        void need(String t) {
            if (!is(t)) {
                throw new Fault(1, here().place);
            }
            at++;
        }

        int peek(int low, int high) {
            Token t = here();
            if (t.none || !t.text.matches("[0-9]+")) {
                throw new Fault(1, t.place);
            }
            int v = Integer.parseInt(t.text);
            if (v < low || v > high) {
                throw new Fault(2, t.place);
            }
            return v;
        }

        int number(int low, int high) {
            int v = peek(low, high);
            at++;
            return v;
        }

        Integer mark(int low, int high) {
            if (is("?")) {
                at++;
                return null;
            }
            return number(low, high);
        }

        void end() {
            if (at != tokens.size() - 1) {
                throw new Fault(1, here().place);
            }
        }
    }

    Kitchen kitchen;
    List<Card> cards = new ArrayList<>();
    Object[][] images = new Object[2][];
    long[][] rows = new long[8][];
    int[] lanes = new int[8];
    StringBuilder tape = new StringBuilder();
    int fault;
    int status;
    List<Integer> trace = new ArrayList<>();

    static boolean in(long v, long a, long b) {
        return v >= a && v <= b;
    }

    boolean is(int card) {
        return in(card, 0, cards.size() - 1);
    }

    long find(int f) {
        status = f;
        return NOT - 10 - f;
    }

    long row(int r, int lane, int n) {
        if (!in(r, 0, 7) || !in(lane, 0, 2) || n > 40) return BAD;
        if (n < 0) return find(4);
        rows[r] = new long[n];
        lanes[r] = lane;
        status = 0;
        return n;
    }

    long set(int r, int i, int v) {
        if (!in(r, 0, 7)) return BAD;
        if (rows[r] == null) return find(1);
        if (!in(i, 0, rows[r].length - 1)) return find(2);
        long bits = lanes[r] == 0 ? 256 : lanes[r] == 1 ? 65536 : 4294967296L;
        long low = Math.floorMod((long) v, bits);
        rows[r][i] = low >= bits / 2 ? low - bits : low;
        status = 0;
        return rows[r][i];
    }

    long copy(int a, int i, int b, int j, int n) {
        if (!in(a, 0, 7) || !in(b, 0, 7)) return BAD;
        if (rows[a] == null || rows[b] == null) return find(1);
        if (lanes[a] != lanes[b]) return find(5);
        if (i < 0 || j < 0 || n < 0 || (long) i + n > rows[a].length || (long) j + n > rows[b].length) return find(2);
        long[] was = rows[a].clone();
        for (int k = 0; k < n; k++) rows[b][j + k] = was[i + k];
        status = 0;
        return n;
    }

    long drop(int r) {
        if (!in(r, 0, 7)) return BAD;
        if (rows[r] == null) return find(1);
        long had = rows[r].length;
        rows[r] = null;
        status = 0;
        return had;
    }

    long feed(long w, int n) {
        if (!in(n, 1, 8)) return BAD;
        if (tape.length() + n > 500) return FULL;
        for (int k = n - 1; k >= 0; k--) tape.append((char) ((w >>> (8 * k)) & 255));
        return tape.length();
    }

    long kitchen() {
        Text t = new Text(tape.toString());
        tape.setLength(0);
        try {
            Kitchen k = new Kitchen();
            while (t.is("measure")) {
                if (k.measures.size() == 16) throw new Fault(3, t.here().place);
                t.at++;
                k.measures.add(new int[] {t.number(0, 3), t.number(0, 3), t.number(1800, 2000), t.number(1, 99)});
                t.need(";");
            }
            while (t.is("packet")) {
                if (k.packets.size() == 8) throw new Fault(3, t.here().place);
                t.at++;
                int thing = t.number(0, 7);
                int from = t.number(1800, 2000);
                k.packets.add(new int[] {thing, from, t.number(from, 2000)});
                t.need(";");
            }
            t.need("rise");
            for (int i = 0; i < 12; i++) k.rise[i] = t.number(0, i < 9 ? 9 : i < 11 ? 99 : 9999);
            t.need(";");
            t.end();
            kitchen = k;
            cards = new ArrayList<>();
            return k.measures.size() + k.packets.size();
        } catch (Fault f) {
            fault = f.number;
            return NOT - 100 - f.place;
        }
    }

    int grain(int measure, int land, int year) {
        TreeMap<Integer, Integer> m = new TreeMap<>();
        for (int[] x : kitchen.measures) {
            if (x[0] == measure && x[1] == land) m.put(x[2], x[3]);
        }
        return m.floorEntry(year) == null ? 1 : m.floorEntry(year).getValue();
    }

    long card() {
        if (kitchen == null) return STATE;
        if (cards.size() == 12) return FULL;
        Text t = new Text(tape.toString());
        tape.setLength(0);
        try {
            Card c = new Card();
            Arrays.fill(c.marks, 0);
            t.need("card");
            c.land = t.number(0, 3);
            c.year = t.number(1800, 2000);
            t.need(";");
            TreeSet<String> seen = new TreeSet<>();
            while (t.at < t.tokens.size() - 1) {
                Token word = t.here();
                if (t.is("add")) {
                    t.at++;
                    int place = t.here().place;
                    int thing = t.number(0, 7);
                    if (!seen.add("add" + thing)) throw new Fault(4, place);
                    Integer amount = t.mark(1, 99);
                    int g = grain(t.number(0, 3), c.land, c.year);
                    c.marks[thing] = amount == null ? null : Integer.valueOf(amount * g);
                } else if (t.is("heat") || t.is("beat")) {
                    if (!seen.add(word.text)) throw new Fault(4, word.place);
                    t.at++;
                    if (word.text.equals("heat")) {
                        c.marks[8] = t.mark(0, 9);
                        c.marks[9] = t.mark(1, 99);
                    } else {
                        c.marks[10] = t.mark(1, 99);
                    }
                } else {
                    throw new Fault(1, word.place);
                }
                t.need(";");
            }
            cards.add(c);
            return cards.size() - 1;
        } catch (Fault f) {
            fault = f.number;
            return NOT - 100 - f.place;
        }
    }

    long told(int land, int year, int r, int i, int mother) {
        if (!in(land, 0, 3) || !in(year, 1800, 2000) || !in(r, 0, 7)) return BAD;
        if (mother != NONE && (!is(mother) || cards.get(mother).year > year)) return BAD;
        if (kitchen == null) return STATE;
        if (cards.size() == 12) return FULL;
        if (rows[r] == null) return find(1);
        if (i < 0 || (long) i + 11 > rows[r].length) return find(2);
        Card c = new Card();
        c.land = land;
        c.year = year;
        c.mother = mother;
        for (int m = 0; m < 11; m++) {
            long v = rows[r][i + m];
            if (!in(v, -1, m < 8 ? 9999 : m == 8 ? 9 : 99)) return BAD;
            c.marks[m] = v == -1 ? null : Integer.valueOf((int) v);
        }
        cards.add(c);
        status = 0;
        return cards.size() - 1;
    }

    long copied(int card, int land, int year, int law, int a, int b) {
        if (!is(card) || !in(land, 0, 3) || !in(year, cards.get(card).year, 2000) || !in(law, 0, 6)) return BAD;
        if (!in(a, 0, 7) || !in(b, 0, 7) || (law == 4 && a == b)) return BAD;
        Card c = cards.get(card).same();
        c.land = land;
        c.year = year;
        c.mother = card;
        Integer g = c.marks[a];
        if (law == 1) c.marks[a] = 0;
        if (law == 2 && g != null) c.marks[a] = g + g;
        if (law == 3 && g != null) c.marks[a] = g / 2;
        if (law == 4) {
            c.marks[b] = g == null || c.marks[b] == null ? null : Integer.valueOf(g + c.marks[b]);
            c.marks[a] = 0;
        }
        if (law == 5 && c.marks[8] != null) c.marks[8] = Math.min(9, c.marks[8] + 1);
        if (law == 6 && c.marks[9] != null) c.marks[9] = Math.max(0, c.marks[9] - 5);
        for (Integer m : c.marks) {
            if (m != null && m > 9999) return STATE;
        }
        if (cards.size() == 12) return FULL;
        cards.add(c);
        return cards.size() - 1;
    }

    long mark(int card, int m) {
        if (!is(card) || !in(m, 0, 10)) return BAD;
        Integer v = cards.get(card).marks[m];
        return v == null ? NONE : v;
    }

    static int stains(Card c) {
        int n = 0;
        for (Integer m : c.marks) n += m == null ? 1 : 0;
        return n;
    }

    long of(int card, int what) {
        if (!is(card) || !in(what, 0, 4)) return BAD;
        Card c = cards.get(card);
        if (what == 4) return cards.stream().filter(o -> o.mother == card).count();
        return new long[] {c.land, c.year, c.mother, stains(c)}[what];
    }

    long stain(int card, int m) {
        if (!is(card) || !in(m, 0, 10)) return BAD;
        boolean was = cards.get(card).marks[m] == null;
        cards.get(card).marks[m] = null;
        return was ? 0 : 1;
    }

    long grains(int measure, int land, int year) {
        if (!in(measure, 0, 3) || !in(land, 0, 3) || !in(year, 1800, 2000)) return BAD;
        return kitchen == null ? STATE : grain(measure, land, year);
    }

    static int diff(Card a, Card b) {
        int n = 0;
        for (int m = 0; m < 11; m++) {
            if (a.marks[m] != null && b.marks[m] != null && !a.marks[m].equals(b.marks[m])) n++;
        }
        return n;
    }

    long unlike(int a, int b) {
        return is(a) && is(b) ? diff(cards.get(a), cards.get(b)) : BAD;
    }

    int rise(Card c) {
        int[] m = new int[11];
        for (int i = 0; i < 11; i++) m[i] = c.marks[i] == null ? 0 : c.marks[i];
        int[] k = kitchen.rise;
        int r = Math.min(m[10], k[10]) - 10 * Math.abs(m[8] - k[8]) - Math.abs(m[9] - k[9]);
        for (int i = 0; i < 8; i++) r += k[i] * m[i];
        return r;
    }

    boolean sinks(Card c) {
        return rise(c) < kitchen.rise[11];
    }

    long baked(int card, int what) {
        if (!is(card) || !in(what, 0, 1)) return BAD;
        return what == 0 ? rise(cards.get(card)) : sinks(cards.get(card)) ? 1 : 0;
    }

    long blame(int good, int sunk, int what) {
        if (!is(good) || !is(sunk) || !in(what, 0, 2)) return BAD;
        Card g = cards.get(good);
        Card s = cards.get(sunk);
        if (sinks(g) || !sinks(s)) return STATE;
        List<Integer> best = new ArrayList<>();
        for (int set = 2047; set > 0; set--) {
            Card c = g.same();
            boolean fits = true;
            for (int m = 0; m < 11; m++) {
                if ((set >> m & 1) == 1) {
                    fits &= g.marks[m] != null && s.marks[m] != null && !g.marks[m].equals(s.marks[m]);
                    c.marks[m] = s.marks[m];
                }
            }
            if (fits && sinks(c)) {
                if (!best.isEmpty() && Integer.bitCount(best.get(0)) > Integer.bitCount(set)) best.clear();
                if (best.isEmpty() || Integer.bitCount(best.get(0)) == Integer.bitCount(set)) best.add(set);
            }
        }
        if (what == 2) return best.size();
        if (best.isEmpty()) return NONE;
        int least = best.get(best.size() - 1);
        return what == 0 ? least : Integer.bitCount(least);
    }

    boolean earlier(int a, int b) {
        int ya = cards.get(a).year;
        int yb = cards.get(b).year;
        return ya != yb ? ya < yb : a < b;
    }

    /** All costs of a CARD's mothers, each with the CARDS that cost it. */
    TreeMap<Integer, TreeSet<Integer>> costs(int card) {
        TreeMap<Integer, TreeSet<Integer>> by = new TreeMap<>();
        for (int o = 0; o < cards.size(); o++) {
            if (earlier(o, card)) by.computeIfAbsent(diff(cards.get(o), cards.get(card)), x -> new TreeSet<>()).add(o);
        }
        return by;
    }

    long mothers(int what) {
        if (!in(what, 0, 1)) return BAD;
        if (cards.isEmpty()) return STATE;
        if (cards.size() <= 6) return bruteMothers(what);
        long sum = 0;
        long rows = 1;
        for (int c = 0; c < cards.size(); c++) {
            if (!costs(c).isEmpty()) {
                sum += costs(c).firstKey();
                rows *= costs(c).firstEntry().getValue().size();
            }
        }
        return what == 0 ? sum : rows;
    }

    long bruteMothers(int what) {
        int n = cards.size();
        int all = (int) Math.pow(n, n);
        int least = 1 << 20;
        int ways = 0;
        int firsts = 0;
        for (int c = 0; c < n; c++) {
            boolean first = true;
            for (int o = 0; o < n; o++) first &= !earlier(o, c);
            if (first) firsts = c;
        }
        for (int code = 0; code < all; code++) {
            int rest = code;
            int sum = 0;
            boolean ok = true;
            for (int c = 0; c < n; c++) {
                int o = rest % n;
                rest /= n;
                if (c == firsts) ok &= o == 0;
                else ok &= earlier(o, c);
                if (ok && c != firsts) sum += diff(cards.get(o), cards.get(c));
            }
            if (ok && sum < least) {
                least = sum;
                ways = 0;
            }
            if (ok && sum == least) ways++;
        }
        return what == 0 ? least : ways;
    }

    long mother(int card) {
        if (!is(card)) return BAD;
        return costs(card).isEmpty() ? NONE : costs(card).firstEntry().getValue().first();
    }

    long two(int card, int what) {
        if (!is(card) || !in(what, 0, 2)) return BAD;
        long[] best = null;
        Card c = cards.get(card);
        for (int a = 0; a < cards.size(); a++) {
            for (int b = a + 1; b < cards.size(); b++) {
                if (!earlier(a, card) || !earlier(b, card)) continue;
                int cost = 1;
                for (int m = 0; m < 11; m++) {
                    if (c.marks[m] != null && !c.marks[m].equals(cards.get(a).marks[m]) && !c.marks[m].equals(cards.get(b).marks[m])) cost++;
                }
                if (best == null || cost < best[0]) best = new long[] {cost, a, b};
            }
        }
        return best == null ? NONE : best[what];
    }

    /** A TREE: an end (card), or a fork of two. */
    static final class Node {
        int card = -1;
        Node a;
        Node b;
        int set;
    }

    static List<Node> allTrees(int set) {
        List<Node> out = new ArrayList<>();
        if (Integer.bitCount(set) == 1) {
            Node n = new Node();
            n.card = Integer.numberOfTrailingZeros(set);
            n.set = set;
            out.add(n);
            return out;
        }
        int low = set & -set;
        for (int half = (set - 1) & set; half > 0; half = (half - 1) & set) {
            if ((half & low) == 0) continue;
            for (Node a : allTrees(half)) {
                for (Node b : allTrees(set & ~half)) {
                    Node n = new Node();
                    n.a = a;
                    n.b = b;
                    n.set = set;
                    out.add(n);
                }
            }
        }
        return out;
    }

    TreeSet<Integer> values(int set, int m) {
        TreeSet<Integer> v = new TreeSet<>();
        for (int c = 0; c < cards.size(); c++) {
            if ((set >> c & 1) == 1 && cards.get(c).marks[m] != null) v.add(cards.get(c).marks[m]);
        }
        return v;
    }

    /** Sankoff: the fewest changes below a node for each value it may have. */
    int[] below(Node n, int m, Integer[] vals) {
        int[] cost = new int[vals.length];
        for (int i = 0; i < vals.length; i++) {
            if (n.a == null) {
                Integer own = cards.get(n.card).marks[m];
                cost[i] = own == null || own.equals(vals[i]) ? 0 : 1000;
            }
        }
        if (n.a != null) {
            for (Node kid : new Node[] {n.a, n.b}) {
                int[] k = below(kid, m, vals);
                for (int i = 0; i < vals.length; i++) {
                    int least = 1 << 20;
                    for (int j = 0; j < vals.length; j++) least = Math.min(least, k[j] + (i == j ? 0 : 1));
                    cost[i] += least;
                }
            }
        }
        return cost;
    }

    static void joins(Node n, TreeSet<Integer> out) {
        if (n.a != null) {
            out.add(n.set);
            joins(n.a, out);
            joins(n.b, out);
        }
    }

    int treesOf;
    int treesLeast;
    int treesWays;
    TreeSet<Integer> treesSure;
    List<TreeSet<Integer>> treesFirst;

    void grow(int set) {
        List<Node> all = allTrees(set);
        treesOf = all.size();
        treesLeast = 1 << 20;
        Integer[][] vals = new Integer[11][];
        for (int m = 0; m < 11; m++) vals[m] = values(set, m).toArray(new Integer[0]);
        for (Node t : all) {
            int sum = 0;
            int[][] costs = new int[11][];
            for (int m = 0; m < 11; m++) {
                costs[m] = below(t, m, vals[m]);
                if (vals[m].length > 0) sum += Arrays.stream(costs[m]).min().getAsInt();
            }
            if (sum > treesLeast) continue;
            TreeSet<Integer> j = new TreeSet<>();
            joins(t, j);
            j.remove(set);
            if (sum < treesLeast) {
                treesLeast = sum;
                treesWays = 0;
                treesSure = j;
                treesFirst = new ArrayList<>();
                for (int m = 0; m < 11; m++) treesFirst.add(new TreeSet<>());
            }
            treesWays++;
            treesSure.retainAll(j);
            for (int m = 0; m < 11; m++) {
                for (int i = 0; i < vals[m].length; i++) {
                    if (costs[m][i] == Arrays.stream(costs[m]).min().getAsInt()) treesFirst.get(m).add(vals[m][i]);
                }
            }
        }
    }

    boolean grove(int set) {
        return set >= 0 && set < (1 << cards.size()) && in(Integer.bitCount(set), 2, 6);
    }

    long trees(int set, int what) {
        if (!grove(set) || !in(what, 0, 2)) return BAD;
        grow(set);
        return what == 0 ? treesLeast : what == 1 ? treesWays : treesOf;
    }

    static long ith(TreeSet<Integer> s, int i) {
        if (i == -1) return s.size();
        return i < s.size() ? new ArrayList<>(s).get(i) : NONE;
    }

    long sure(int set, int i) {
        if (!grove(set) || i < -1) return BAD;
        grow(set);
        return ith(treesSure, i);
    }

    long first(int set, int m, int i) {
        if (!grove(set) || !in(m, 0, 10) || i < -1) return BAD;
        grow(set);
        return ith(treesFirst.get(m), i);
    }

    long years(int card, int what) {
        if (!is(card) || !in(what, 0, 1)) return BAD;
        int from = 0;
        int till = 9999;
        boolean any = false;
        for (int[] p : kitchen.packets) {
            Integer g = cards.get(card).marks[p[0]];
            if (g != null && g > 0) {
                any = true;
                from = Math.max(from, p[1]);
                till = Math.min(till, p[2]);
            }
        }
        return !any || from > till ? NONE : what == 0 ? from : till;
    }

    boolean comesFrom(int c, int card) {
        int m = cards.get(c).mother;
        return m != NONE && (m == card || comesFrom(m, card));
    }

    long left(int card, int thing) {
        if (!is(card) || !in(thing, 0, 7)) return BAD;
        Card c = cards.get(card);
        if (c.mother == NONE) return NONE;
        Integer had = cards.get(c.mother).marks[thing];
        if (had == null || had == 0 || !Integer.valueOf(0).equals(c.marks[thing])) return NONE;
        int n = 0;
        for (int o = 0; o < cards.size(); o++) {
            if (comesFrom(o, card)) {
                n++;
                if (!Integer.valueOf(0).equals(cards.get(o).marks[thing])) return NONE;
            }
        }
        return n;
    }

    long chance(int card, int thing, int l) {
        if (!is(card) || !in(thing, 0, 7) || !in(l, 2, 9)) return BAD;
        long n = left(card, thing);
        return n == NONE ? NONE : java.math.BigInteger.valueOf(l).pow((int) n).longValueExact();
    }

    long mend(int card, int a, int b, int c) {
        if (!is(card) || !is(a) || !is(b) || !is(c)) return BAD;
        if (new TreeSet<>(List.of(card, a, b, c)).size() != 4) return BAD;
        int n = 0;
        for (int m = 0; m < 11; m++) {
            if (cards.get(card).marks[m] != null) continue;
            TreeMap<Integer, Integer> votes = new TreeMap<>();
            for (int o : new int[] {a, b, c}) {
                if (cards.get(o).marks[m] != null) votes.merge(cards.get(o).marks[m], 1, Integer::sum);
            }
            for (int v : votes.keySet()) {
                if (votes.get(v) >= 2) {
                    cards.get(card).marks[m] = v;
                    n++;
                }
            }
        }
        return n;
    }

    long book(int d) {
        if (!in(d, 0, 11)) return BAD;
        if (cards.isEmpty()) return STATE;
        int best = 0;
        for (int set = (1 << cards.size()) - 1; set > 0; set--) {
            boolean all = true;
            for (int c = 0; c < cards.size() && all; c++) {
                boolean near = (set >> c & 1) == 1;
                for (int o = 0; o < cards.size(); o++) {
                    near |= (set >> o & 1) == 1 && diff(cards.get(c), cards.get(o)) <= d;
                }
                all = near;
            }
            if (all && (best == 0 || Integer.bitCount(set) <= Integer.bitCount(best))) best = set;
        }
        return best;
    }

    List<Card> sameCards(List<Card> from) {
        List<Card> out = new ArrayList<>();
        for (Card c : from) out.add(c.same());
        return out;
    }

    long image(int k) {
        if (!in(k, 0, 1)) return BAD;
        if (kitchen == null) return STATE;
        images[k] = new Object[] {kitchen, sameCards(cards)};
        return 1;
    }

    @SuppressWarnings("unchecked")
    long restore(int k) {
        if (!in(k, 0, 1)) return BAD;
        if (images[k] == null) return STATE;
        kitchen = (Kitchen) images[k][0];
        cards = sameCards((List<Card>) images[k][1]);
        return 1;
    }

    int kindOf(int card) {
        Card c = cards.get(card);
        if (stains(c) == 0) return sinks(c) ? 3 : c.mother == NONE ? 4 : 1;
        return c.mother != NONE && diff(c, cards.get(c.mother)) >= 2 ? 5 : 2;
    }

    long kind(int card) {
        return is(card) ? kindOf(card) : BAD;
    }

    static final int[][] IS = {{0}, {0, 1}, {0, 2}, {0, 1, 3}, {0, 1, 4}, {0, 2, 5}};

    long as(int card, int kind) {
        if (!is(card) || !in(kind, 0, 5)) return BAD;
        for (int k : IS[kindOf(card)]) {
            if (k == kind) {
                status = 0;
                return card;
            }
        }
        return find(3);
    }

    void leave(int body) {
        if (trace.size() < 16) trace.add(body);
    }

    long size(int card) {
        int k = kindOf(card);
        return k == 3 ? body12(card) : k == 1 || k == 4 ? body11(card) : k == 5 ? body14(card) : body13(card);
    }

    long markAsk(int card) {
        int k = kindOf(card);
        if (k == 5) {
            leave(23);
            return 0 - body22(card);
        }
        if (k == 2) return body22(card);
        if (k == 4) {
            leave(21);
            return body20(card) + cards.get(card).year;
        }
        if (k == 3) {
            leave(24);
            return body20(card) + rise(cards.get(card));
        }
        return body20(card);
    }

    long body10(int card) {
        leave(10);
        long n = 0;
        for (int t = 0; t < 8; t++) {
            Integer g = cards.get(card).marks[t];
            n += g != null && g > 0 ? 1 : 0;
        }
        return n;
    }

    long body11(int card) {
        leave(11);
        long ten = body10(card);
        return ten + markAsk(card);
    }

    long body12(int card) {
        leave(12);
        return 2 * body11(card);
    }

    long body13(int card) {
        leave(13);
        return body10(card) - stains(cards.get(card));
    }

    long body14(int card) {
        leave(14);
        return body13(card) + 100;
    }

    long body20(int card) {
        leave(20);
        return card;
    }

    long body22(int card) {
        leave(22);
        long twenty = body20(card);
        return twenty + size(card);
    }

    long ask(int card, int what) {
        if (!is(card) || !in(what, 0, 1)) return BAD;
        trace.clear();
        return what == 0 ? size(card) : markAsk(card);
    }

    long trace(int i) {
        return in(i, 0, trace.size() - 1) ? trace.get(i) : NONE;
    }

    long count(int what) {
        switch (what) {
            case 0: return Arrays.stream(rows).filter(r -> r != null).count();
            case 1: return kitchen == null ? 0 : kitchen.measures.size();
            case 2: return kitchen == null ? 0 : kitchen.packets.size();
            case 3: return cards.size();
            case 4: return cards.stream().mapToInt(ModelTest::stains).sum();
            case 5: return tape.length();
            default: return BAD;
        }
    }

    // ---- the runs

    final Random dice;
    CakeCards x;
    final List<String> log = new ArrayList<>();
    int calls;
    boolean wrong;

    ModelTest(long seed) {
        dice = new Random(seed);
        x = new CakeCards();
    }

    int pick(int... of) {
        return of[dice.nextInt(of.length)];
    }

    int to(int n) {
        return dice.nextInt(n + 1);
    }

    /** Mostly 0 to n, now and then beyond. */
    int about(int n) {
        return dice.nextInt(30) == 0 ? pick(-1, n + 1, -2, NONE, Integer.MAX_VALUE, Integer.MIN_VALUE) : to(n);
    }

    int someCard() {
        return cards.isEmpty() ? about(2) : about(cards.size() - 1);
    }

    int someYear() {
        return dice.nextInt(25) == 0 ? pick(1799, 2001, 0, -1) : pick(1800, 2000, 1900 + to(6), 1950 + to(4));
    }

    void same(String call, long got, long want) {
        calls++;
        log.add(call + " -> " + got);
        if (got != want && !wrong) {
            wrong = true;
            for (String l : log) System.out.println(l);
            System.out.println(call + " answered " + got + ", the model says " + want);
        }
    }

    void feedText(String text) {
        for (int at = 0; at < text.length(); ) {
            int n = Math.min(1 + to(7), text.length() - at);
            if (dice.nextInt(4) != 0) n = Math.min(8, text.length() - at);
            long w = n < 8 ? dice.nextLong() << (8 * n) : 0;
            for (int k = 0; k < n; k++) w |= (long) (text.charAt(at + k) & 255) << (8 * (n - 1 - k));
            same("feed(" + w + ", " + n + ")", x.feed(w, n), feed(w, n));
            at += n;
        }
    }

    String blank() {
        return pick(0, 1, 1, 1, 1, 1, 1, 1, 1, 1, 1, 1) == 0 ? pick(0, 1) == 0 ? "  " : "\n" : " ";
    }

    String end() {
        return pick(0, 1, 1, 1, 1, 1, 1, 1) == 0 ? " ; \n" : ";";
    }

    String num(int low, int high) {
        int v = low + to(high - low);
        int luck = dice.nextInt(220);
        if (luck == 0) v = high + 1;
        if (luck == 1) v = Math.max(0, low - 1);
        if (luck == 2) return "?";
        if (luck == 3) return "0" + v;
        if (luck == 4) return "00" + v;
        if (luck == 5) return "12345";
        if (luck == 6) return ";";
        return "" + v;
    }

    String stained(int low, int high) {
        return dice.nextInt(6) == 0 ? "?" : num(low, high);
    }

    String spoil(String text) {
        int luck = dice.nextInt(24);
        if (luck == 0 && !text.isEmpty()) return text.substring(0, to(text.length() - 1));
        if (luck == 1) return text + (char) pick('x', 'A', 200, 0, ';', '7', '?');
        if (luck == 2) {
            int at = to(text.length());
            return text.substring(0, at) + (char) pick('a', '9', '?', ';', ' ', 10, 9, 255, 127) + text.substring(at);
        }
        if (luck == 3) return " \n" + text + "\n ";
        return text;
    }

    String kitchenText() {
        StringBuilder t = new StringBuilder();
        int measures = pick(0, 1, 2, 3, 5, 16);
        if (dice.nextInt(20) == 0) measures = 17;
        for (int i = 0; i < measures && t.length() < 420; i++) {
            t.append("measure").append(measures > 15 ? "" : " ").append(num(0, measures > 4 ? 3 : 1)).append(blank()).append(num(0, measures > 4 ? 3 : 1));
            t.append(blank()).append(num(1895, 1905)).append(" ").append(num(1, measures > 4 ? 99 : 3)).append(measures > 15 ? ";" : end());
        }
        int packets = pick(0, 1, 2, 3, 8);
        if (dice.nextInt(20) == 0) packets = 9;
        for (int i = 0; i < packets && t.length() < 440; i++) {
            int from = 1800 + to(150);
            t.append("packet ").append(num(0, 7)).append(blank()).append(from).append(" ").append(dice.nextInt(60) == 0 ? from - 1 : from + to(2000 - from)).append(end());
        }
        if (dice.nextInt(60) == 0) t.append("measure 0 0 1900 1;");
        t.append("rise");
        int most = pick(1, 3, 9);
        for (int i = 0; i < 8; i++) t.append(blank()).append(num(0, most));
        t.append(blank()).append(num(0, 9)).append(blank()).append(num(0, 99)).append(blank()).append(num(0, 99));
        t.append(blank()).append(most == 9 ? num(0, 9999) : num(0, 60)).append(end());
        return spoil(t.toString());
    }

    String cardText() {
        StringBuilder t = new StringBuilder("card ").append(num(0, 1)).append(blank()).append(num(1893, 1907)).append(end());
        int lines = to(9);
        List<Integer> things = new ArrayList<>(List.of(0, 1, 2, 3, 4, 5, 6, 7));
        for (int i = 0; i < lines; i++) {
            int luck = dice.nextInt(12);
            if (luck == 0 || (luck == 2 && t.indexOf("heat") < 0)) {
                t.append("heat").append(blank()).append(stained(0, 9)).append(blank()).append(stained(1, 99)).append(end());
            } else if (luck == 1 || (luck == 3 && t.indexOf("beat") < 0)) {
                t.append("beat").append(blank()).append(stained(1, 99)).append(end());
            } else if (!things.isEmpty()) {
                int thing = dice.nextInt(25) == 0 ? to(8) : things.remove(to(things.size() - 1));
                t.append("add").append(pick(0, 1) == 0 ? "" : " ").append(thing).append(" ").append(stained(1, pick(3, 3, 99))).append(blank()).append(num(0, 3)).append(end());
            }
        }
        return spoil(t.toString());
    }

    void callTold() {
        int r = about(7);
        if (dice.nextInt(5) != 0 && in(r, 0, 7)) {
            int lane = about(2);
            int n = pick(11, 11, 11, 11, 12, 40, 10);
            same("row(" + r + ", " + lane + ", " + n + ")", x.row(r, lane, n), row(r, lane, n));
            int at = n == 12 ? 1 : 0;
            int most = pick(1, 1, 2, 9999);
            for (int m = 0; m < 11; m++) {
                int v = dice.nextInt(9) == 0 ? -1 : m < 8 ? to(most) : m == 8 ? to(Math.min(9, most)) : to(Math.min(99, most));
                if (dice.nextInt(150) == 0) v = pick(-2, 10000, 100, 10, 65536, 255, 128, 32768);
                same("set(" + r + ", " + (at + m) + ", " + v + ")", x.set(r, at + m, v), set(r, at + m, v));
            }
        }
        int land = about(3);
        int year = someYear();
        int i = pick(0, 0, 0, 1, 1, 29, 30, -1, Integer.MAX_VALUE);
        int mother = pick(0, 1) == 0 ? NONE : someCard();
        if (rows(r) && rows[r].length == 12 && pick(0, 1) == 0) i = 1;
        if (rows(r) && rows[r].length == 11 && pick(0, 1) == 0) i = 0;
        same("told(" + land + ", " + year + ", " + r + ", " + i + ", " + mother + ")", x.told(land, year, r, i, mother), told(land, year, r, i, mother));
    }

    boolean rows(int r) {
        return in(r, 0, 7) && rows[r] != null;
    }

    void callCopied() {
        int c = someCard();
        int land = about(3);
        int year = dice.nextInt(3) == 0 || !is(c) ? someYear() : cards.get(c).year + to(3) - (dice.nextInt(12) == 0 ? 1 : 0);
        int law = about(6);
        int a = about(7);
        int b = about(7);
        same("copied(" + c + ", " + land + ", " + year + ", " + law + ", " + a + ", " + b + ")", x.copied(c, land, year, law, a, b), copied(c, land, year, law, a, b));
    }

    int someSet() {
        int luck = dice.nextInt(20);
        if (luck == 0) return pick(0, 1, -1, 4096, 127, Integer.MIN_VALUE, 1 << cards.size());
        int set = 0;
        int want = 2 + to(luck < 4 ? 4 : 3);
        for (int i = 0; i < want && !cards.isEmpty(); i++) set |= 1 << to(cards.size() - 1);
        return set;
    }

    void callRow() {
        int r = about(7);
        int i = pick(-1, 0, 1, 2, 10, 39, 40);
        int v = pick(0, -1, 127, 128, 255, 256, 32767, 32768, 65535, 70000, dice.nextInt());
        int j = pick(0, 1, 2, 5, -1);
        int b = pick(0, 1) == 0 ? r : about(7);
        int n = pick(0, 1, 3, 5, 11, -1, 40, 41, Integer.MAX_VALUE, Integer.MIN_VALUE);
        int lane = about(2);
        switch (to(5)) {
            case 0: same("row(" + r + ", " + lane + ", " + n + ")", x.row(r, lane, n), row(r, lane, n)); break;
            case 1: case 2: same("set(" + r + ", " + i + ", " + v + ")", x.set(r, i, v), set(r, i, v)); break;
            case 3: case 4: same("copy(" + r + ", " + i + ", " + b + ", " + j + ", " + n + ")", x.copy(r, i, b, j, n), copy(r, i, b, j, n)); break;
            default: if (pick(0, 1, 2) == 0) same("drop(" + r + ")", x.drop(r), drop(r)); break;
        }
    }

    void checkAll() {
        for (int i = -1; i < 7; i++) same("count(" + i + ")", x.count(i), count(i));
        same("status()", x.status(), status);
        same("fault()", x.fault(), fault);
        for (int i = -1; i < 17; i++) same("trace(" + i + ")", x.trace(i), trace(i));
        for (int c = 0; c < cards.size(); c++) {
            for (int w = 0; w < 5; w++) same("of(" + c + ", " + w + ")", x.of(c, w), of(c, w));
            for (int m = 0; m < 11; m++) same("mark(" + c + ", " + m + ")", x.mark(c, m), mark(c, m));
        }
    }

    void callQuery() {
        int c = someCard();
        int o = someCard();
        int m = about(10);
        int t = about(7);
        int w = about(2);
        int set = someSet();
        int i = about(3) - (pick(0, 1, 2, 3) == 0 ? 1 : 0);
        String cc = "(" + c + ", ";
        switch (to(26)) {
            case 0: same("mark" + cc + m + ")", x.mark(c, m), mark(c, m)); break;
            case 1: same("of" + cc + i + ")", x.of(c, i), of(c, i)); break;
            case 2: { int me = about(3); int l = about(3); int y = 1893 + to(14); if (to(9) == 0) y = someYear(); same("grains(" + me + ", " + l + ", " + y + ")", x.grains(me, l, y), grains(me, l, y)); break; }
            case 3: same("unlike" + cc + o + ")", x.unlike(c, o), unlike(c, o)); break;
            case 4: same("baked" + cc + w + ")", x.baked(c, w), baked(c, w)); break;
            case 5: case 6: for (int k = -1; k < 4; k++) same("blame" + cc + o + ", " + k + ")", x.blame(c, o, k), blame(c, o, k)); break;
            case 7: same("mothers(" + w + ")", x.mothers(w), mothers(w)); break;
            case 8: same("mother(" + c + ")", x.mother(c), mother(c)); break;
            case 9: case 10: for (int k = -1; k < 4; k++) same("two" + cc + k + ")", x.two(c, k), two(c, k)); break;
            case 11: case 12: same("trees(" + set + ", " + w + ")", x.trees(set, w), trees(set, w)); break;
            case 13: same("sure(" + set + ", " + i + ")", x.sure(set, i), sure(set, i)); break;
            case 14: case 15: same("first(" + set + ", " + m + ", " + i + ")", x.first(set, m, i), first(set, m, i)); break;
            case 16: same("years" + cc + w + ")", x.years(c, w), years(c, w)); break;
            case 17: case 18: same("left" + cc + t + ")", x.left(c, t), left(c, t)); break;
            case 19: { int l = about(9); same("chance" + cc + t + ", " + l + ")", x.chance(c, t, l), chance(c, t, l)); break; }
            case 20: { int d = pick(0, 1, 2, 3, 4, about(11)); same("book(" + d + ")", x.book(d), book(d)); break; }
            case 21: same("kind(" + c + ")", x.kind(c), kind(c)); break;
            case 22: { int k = about(5); same("as" + cc + k + ")", x.as(c, k), as(c, k)); break; }
            case 23: case 24: same("ask" + cc + w + ")", x.ask(c, w), ask(c, w)); break;
            case 25: same("trace(" + i + ")", x.trace(i), trace(i)); break;
            default: same("status()", x.status(), status); same("fault()", x.fault(), fault); break;
        }
    }

    void step() {
        int luck = dice.nextInt(100);
        int c = someCard();
        int m = about(10);
        if (kitchen == null || luck == 0) {
            feedText(kitchenText());
            if (dice.nextInt(40) != 0) same("kitchen()", x.kitchen(), kitchen());
        } else if (luck < 5) {
            feedText(cardText());
            same("card()", x.card(), card());
        } else if (luck < 9) {
            callTold();
        } else if (luck < 17) {
            callCopied();
        } else if (luck < 23) {
            same("stain(" + c + ", " + m + ")", x.stain(c, m), stain(c, m));
        } else if (luck < 27) {
            int a = someCard();
            int b = someCard();
            int d = someCard();
            same("mend(" + c + ", " + a + ", " + b + ", " + d + ")", x.mend(c, a, b, d), mend(c, a, b, d));
        } else if (luck < 29) {
            int k = about(1);
            same("image(" + k + ")", x.image(k), image(k));
        } else if (luck < 31) {
            int k = about(1);
            same("restore(" + k + ")", x.restore(k), restore(k));
        } else if (luck < 36) {
            callRow();
        } else if (luck < 37) {
            int n = about(8);
            same("feed(7, " + n + ")", x.feed(7, n), feed(7, n));
        } else {
            callQuery();
        }
    }

    public static void main(String[] args) {
        int runs = args.length > 0 ? Integer.parseInt(args[0]) : 400;
        long from = args.length > 1 ? Long.parseLong(args[1]) : 1;
        for (long seed = from; seed < from + runs; seed++) {
            ModelTest t = new ModelTest(seed);
            // No object is used for more than 512 calls: one step makes some 130 at most, checkAll 220.
            while (t.calls < 280 && !t.wrong) t.step();
            if (t.calls <= 290) t.checkAll();
            if (t.wrong) {
                System.out.println("seed " + seed + " went wrong");
                System.exit(1);
            }
        }
        System.out.println(runs + " random runs are as the model says");
    }
}
