import java.nio.charset.StandardCharsets;
import java.util.ArrayDeque;
import java.util.ArrayList;
import java.util.Arrays;
import java.util.Deque;
import java.util.HashSet;
import java.util.List;
import java.util.Set;
import java.util.TreeMap;

/** The document once more, written as slowly and plainly as can be, to hold the class against. */
final class NaiveModel {
    static final class Told implements Cloneable {
        int state;
        int slip;
        int hour;
        List<int[]> people = new ArrayList<>(); // hum, sounding, loud
        List<List<Integer>> tunes = new ArrayList<>();
        List<int[]> pairs = new ArrayList<>();
        List<Integer> told = new ArrayList<>();
        List<int[]> book = new ArrayList<>();
        List<Line> law = new ArrayList<>();

        Told() {
            for (int i = 0; i < 4; i++) {
                tunes.add(new ArrayList<>());
            }
        }

        Told copy() {
            Told c = new Told();
            c.state = state;
            c.slip = slip;
            c.hour = hour;
            for (int[] p : people) {
                c.people.add(p.clone());
            }
            for (int i = 0; i < 4; i++) {
                c.tunes.set(i, new ArrayList<>(tunes.get(i)));
            }
            c.pairs = new ArrayList<>(pairs);
            c.told = new ArrayList<>(told);
            c.book = new ArrayList<>(book);
            c.law = new ArrayList<>(law);
            return c;
        }
    }

    /** What a condition may ask for. */
    record Scene(int low, int high, int hum, int loud, int crowd, int hour, int who) { }

    interface Expr { int at(Scene s); }

    interface Cond { boolean at(Scene s); }

    record Line(boolean hear, Cond when) { }

    static final class Fault extends RuntimeException {
        private static final long serialVersionUID = 1L;
        final int kind;
        final int place;

        Fault(int kind, int place) {
            super(null, null, false, false);
            this.kind = kind;
            this.place = place;
        }
    }

    /** A recursive descent over the letters of the text, with no list of tokens. */
    static final class Parser {
        final String text;
        int at = 0;
        int depth = 0;
        static final Set<String> WORDS = Set.of("hear", "miss", "when", "or", "and", "not", "low", "high",
            "apart", "hum", "near", "loud", "crowd", "hour", "who");

        Parser(String text) {
            this.text = text;
        }

        int start() {
            int i = at;
            while (i < text.length() && (text.charAt(i) == ' ' || text.charAt(i) == '\n')) {
                i++;
            }
            return i;
        }

        /** The token that comes; "" at the end, "?" for none. */
        String peek() {
            int i = start();
            if (i == text.length()) {
                return "";
            }
            String rest = text.substring(i);
            java.util.regex.Matcher m = java.util.regex.Pattern.compile("[A-Za-z]+|[0-9]+|[;+*/()<=>-]").matcher(rest);
            if (!m.lookingAt()) {
                return "?";
            }
            String t = m.group();
            if (Character.isLetter(t.charAt(0))) {
                return WORDS.contains(t) ? t : "?";
            }
            if (Character.isDigit(t.charAt(0))) {
                return t.length() <= 4 ? t : "?";
            }
            return t;
        }

        String next() {
            String t = peek();
            at = start() + t.length();
            return t;
        }

        Fault wrong(int kind) {
            return new Fault(kind, start());
        }

        void need(String t) {
            if (!peek().equals(t)) {
                throw wrong(1);
            }
            next();
        }

        List<Line> law() {
            List<Line> lines = new ArrayList<>();
            while (!peek().isEmpty()) {
                if (!peek().equals("hear") && !peek().equals("miss")) {
                    throw wrong(1);
                }
                if (lines.size() == 16) {
                    throw wrong(3);
                }
                boolean hear = next().equals("hear");
                Cond c = null;
                if (peek().equals("when")) {
                    next();
                    c = any();
                }
                need(";");
                lines.add(new Line(hear, c));
            }
            return lines;
        }

        Cond any() {
            Cond c = all();
            while (peek().equals("or")) {
                next();
                Cond l = c;
                Cond r = all();
                c = s -> l.at(s) || r.at(s);
            }
            return c;
        }

        Cond all() {
            Cond c = one();
            while (peek().equals("and")) {
                next();
                Cond l = c;
                Cond r = one();
                c = s -> l.at(s) && r.at(s);
            }
            return c;
        }

        Cond one() {
            if (peek().equals("not") || peek().equals("(")) {
                if (depth == 8) {
                    throw wrong(3);
                }
                depth++;
                Cond c;
                if (next().equals("not")) {
                    Cond inner = one();
                    c = s -> !inner.at(s);
                } else {
                    c = any();
                    need(")");
                }
                depth--;
                return c;
            }
            Expr l = sum();
            String sign = peek();
            if (!sign.equals("<") && !sign.equals("=") && !sign.equals(">")) {
                throw wrong(1);
            }
            next();
            Expr r = sum();
            return s -> {
                int a = l.at(s);
                int b = r.at(s);
                return sign.equals("<") ? a < b : sign.equals("=") ? a == b : a > b;
            };
        }

        Expr sum() {
            Expr e = product();
            while (peek().equals("+") || peek().equals("-")) {
                boolean plus = next().equals("+");
                Expr l = e;
                Expr r = product();
                e = s -> plus ? l.at(s) + r.at(s) : l.at(s) - r.at(s);
            }
            return e;
        }

        Expr product() {
            Expr e = unit();
            while (peek().equals("*") || peek().equals("/")) {
                Expr l = e;
                if (next().equals("*")) {
                    Expr r = unit();
                    e = s -> l.at(s) * r.at(s);
                } else {
                    if (!peek().matches("[0-9]+")) {
                        throw wrong(1);
                    }
                    int n = Integer.parseInt(peek());
                    if (n == 0) {
                        throw wrong(2);
                    }
                    next();
                    e = s -> l.at(s) / n;
                }
            }
            return e;
        }

        Expr unit() {
            String t = peek();
            if (t.matches("[0-9]+")) {
                next();
                int n = Integer.parseInt(t);
                return s -> n;
            }
            Expr e = switch (t) {
                case "low" -> Scene::low;
                case "high" -> Scene::high;
                case "apart" -> s -> s.high() - s.low();
                case "hum" -> Scene::hum;
                case "near" -> s -> Math.min(Math.abs(s.low() - s.hum()), Math.abs(s.high() - s.hum()));
                case "loud" -> Scene::loud;
                case "crowd" -> Scene::crowd;
                case "hour" -> Scene::hour;
                case "who" -> Scene::who;
                default -> throw wrong(1);
            };
            next();
            return e;
        }
    }

    Told w = new Told();
    Told kept = null;
    Deque<Told> undo = new ArrayDeque<>();
    List<Byte> tape = new ArrayList<>();
    int faultKind = 0;
    int faultPlace = -1;

    boolean is(int p) {
        return p >= 0 && p < w.people.size();
    }

    boolean sings(int p) {
        return is(p) && w.people.get(p)[0] != -1;
    }

    int hum(int p) {
        return w.people.get(p)[0];
    }

    boolean hearing(int p, int a, int b, int ta, int tb) {
        if (!sings(p)) {
            return false;
        }
        int crowd = 0;
        for (int i = 0; i < w.people.size(); i++) {
            if (i != p && i != a && i != b && w.people.get(i)[1] == 1) {
                crowd++;
            }
        }
        Scene s = new Scene(Math.min(ta, tb), Math.max(ta, tb), hum(p),
            w.people.get(a)[2] + w.people.get(b)[2], crowd, w.hour, p);
        for (Line l : w.law) {
            if (l.when() == null || l.when().at(s)) {
                return l.hear();
            }
        }
        return true;
    }

    List<Integer> heardWords(int p) {
        List<Integer> words = new ArrayList<>();
        for (int a = 0; a < w.people.size(); a++) {
            for (int b = a + 1; b < w.people.size(); b++) {
                if (a != p && b != p && w.people.get(a)[1] == 1 && w.people.get(b)[1] == 1
                    && hearing(p, a, b, hum(a), hum(b))) {
                    words.add(Math.abs(hum(a) - hum(b)));
                }
            }
        }
        return words;
    }

    int draw(int m) {
        w.state = w.state * 1664525 + 1013904223;
        return (int) (((w.state & 0xffffffffL) >> 8) % m);
    }

    int state(int v) {
        int before = w.state;
        w.state = v;
        undo.clear();
        return before;
    }

    int person(int hum) {
        if (hum < -1 || hum > 60 || w.people.size() == 10) {
            return -1;
        }
        w.people.add(new int[] {hum, 0, 5});
        undo.clear();
        return w.people.size() - 1;
    }

    boolean set(int what, int person, int v) {
        if (what == 3) {
            if (v < 0 || v > 1000) {
                return false;
            }
            w.slip = v;
            undo.clear();
            return true;
        }
        if (!is(person) || what < 0 || what > 2) {
            return false;
        }
        int[] p = w.people.get(person);
        if (what == 0 && (v < -1 || v > 60)) {
            return false;
        }
        if (what == 1 && (v < 0 || v > 1 || (v == 1 && p[0] == -1))) {
            return false;
        }
        if (what == 2 && (v < 0 || v > 9)) {
            return false;
        }
        p[what] = v;
        if (p[0] == -1) {
            p[1] = 0;
        }
        undo.clear();
        return true;
    }

    int feed(int a, int b, int c, int d, int e) {
        if (tape.size() + 20 > 400) {
            return -1;
        }
        for (int n : new int[] {a, b, c, d, e}) {
            for (byte x : java.nio.ByteBuffer.allocate(4).putInt(n).array()) {
                tape.add(x);
            }
        }
        return tape.size();
    }

    boolean end(int n) {
        if (n < 0 || n > tape.size()) {
            return false;
        }
        tape = new ArrayList<>(tape.subList(0, n));
        return true;
    }

    int text() {
        byte[] raw = new byte[tape.size()];
        for (int i = 0; i < raw.length; i++) {
            raw[i] = tape.get(i);
        }
        tape.clear();
        try {
            w.law = new Parser(new String(raw, StandardCharsets.ISO_8859_1)).law();
            faultKind = 0;
            faultPlace = -1;
            return w.law.size();
        } catch (Fault f) {
            faultKind = f.kind;
            faultPlace = f.place;
            return -1;
        }
    }

    int fault(int what) {
        return what == 0 ? faultKind : what == 1 ? faultPlace : -1;
    }

    void keepForUndo() {
        undo.addLast(w.copy());
        if (undo.size() > 8) {
            undo.removeFirst();
        }
    }

    int speak(int a, int b) {
        if (a == b || !sings(a) || !sings(b)) {
            return -1;
        }
        keepForUndo();
        int set = 0;
        for (int i = 0; i < w.people.size(); i++) {
            if (i != a && i != b && hearing(i, a, b, hum(a), hum(b))) {
                set += (int) Math.pow(2, i);
            }
        }
        if (w.book.size() < 100) {
            w.book.add(new int[] {Math.min(a, b), Math.max(a, b), Math.abs(hum(a) - hum(b)), w.hour, set});
        }
        return set;
    }

    int hours(int n) {
        if (n < 1 || n > 100 || w.hour + n > 9999) {
            return -1;
        }
        int slipped = 0;
        for (int h = 0; h < n; h++) {
            keepForUndo();
            for (int[] p : w.people) {
                if (p[1] == 1 && w.slip > 0 && draw(1000) < w.slip) {
                    slipped++;
                    if (draw(2) == 0) {
                        if (p[0] > 0) {
                            p[0]--;
                        }
                    } else if (p[0] < 60) {
                        p[0]++;
                    }
                }
            }
            w.hour++;
        }
        return slipped;
    }

    int of(int person, int what) {
        if (!is(person) || what < 0 || what > 4) {
            return -2;
        }
        if (what < 3) {
            return w.people.get(person)[what];
        }
        List<Integer> words = heardWords(person);
        return what == 3 ? words.size() : new HashSet<>(words).size();
    }

    int hears(int p, int a, int b) {
        if (!is(p) || !sings(a) || !sings(b) || p == a || p == b || a == b) {
            return -1;
        }
        return hearing(p, a, b, hum(a), hum(b)) ? 1 : 0;
    }

    int deaf(int p, int without) {
        if (!is(p) || !is(without) || p == without) {
            return -1000;
        }
        int before = heardWords(p).size();
        Told stays = w;
        w = w.copy();
        w.people.get(without)[1] = 0;
        int after = heardWords(p).size();
        w = stays;
        return before - after;
    }

    int book(int i, int what) {
        return i < 0 || i >= w.book.size() || what < 0 || what > 4 ? -1 : w.book.get(i)[what];
    }

    int tune(int t, int tone) {
        if (t < 0 || t > 3 || tone < -1 || tone > 60) {
            return -1;
        }
        List<Integer> l = w.tunes.get(t);
        if (tone == -1) {
            l.clear();
            return 0;
        }
        if (l.size() == 12) {
            return -1;
        }
        l.add(tone);
        return l.size();
    }

    int same(int a, int b) {
        if (a < 0 || a > 3 || b < 0 || b > 3) {
            return -1;
        }
        List<Integer> x = w.tunes.get(a);
        List<Integer> y = w.tunes.get(b);
        if (x.isEmpty() || y.isEmpty()) {
            return 0;
        }
        if (x.equals(y)) {
            return 3;
        }
        for (int by = -60; by <= 60; by++) {
            int move = by;
            if (x.stream().map(t -> t + move).toList().equals(y)) {
                return 2;
            }
        }
        for (int about = 0; about <= 120; about++) {
            int sum = about;
            if (x.stream().map(t -> sum - t).toList().equals(y)) {
                return 1;
            }
        }
        return 0;
    }

    int pair(int a, int b) {
        if (a == -1) {
            w.pairs = new ArrayList<>();
            return 0;
        }
        if (!is(a) || !is(b) || a == b || w.pairs.size() == 8) {
            return -1;
        }
        w.pairs.add(new int[] {a, b});
        return w.pairs.size();
    }

    int turnOf(int what) {
        int n = w.pairs.size();
        if (what != 0 && (what < 10 || what - 10 >= n)) {
            return -1;
        }
        for (int k = 0;; k++) {
            int[] t = new int[n];
            if (turnsFrom(t, 0, k)) {
                return what == 0 ? k : t[what - 10];
            }
        }
    }

    private boolean turnsFrom(int[] t, int i, int k) {
        if (i == t.length) {
            return true;
        }
        for (t[i] = 1; t[i] <= k; t[i]++) {
            boolean good = true;
            for (int j = 0; j < i; j++) {
                good = good && (t[j] != t[i] || together(w.pairs.get(i), w.pairs.get(j)));
            }
            if (good && turnsFrom(t, i + 1, k)) {
                return true;
            }
        }
        return false;
    }

    private boolean together(int[] x, int[] y) {
        Set<Integer> four = new HashSet<>(List.of(x[0], x[1]));
        if (four.contains(y[0]) || four.contains(y[1])) {
            return false;
        }
        boolean bothSay = sings(x[0]) && sings(x[1]) && sings(y[0]) && sings(y[1]);
        return !bothSay || Math.abs(hum(x[0]) - hum(x[1])) != Math.abs(hum(y[0]) - hum(y[1]));
    }

    int tell(int word) {
        if (word == -1) {
            w.told = new ArrayList<>();
            return 0;
        }
        if (word < 1 || word > 24 || w.told.size() == 15) {
            return -1;
        }
        w.told.add(word);
        return w.told.size();
    }

    /** All rows of n rising tones from 0 to a last one, in their order. */
    static void rows(int n, int last, int[] row, int placed, List<int[]> all) {
        if (placed == n) {
            all.add(row.clone());
            return;
        }
        for (int t = row[placed - 1] + 1; t <= last; t++) {
            row[placed] = t;
            rows(n, last, row, placed + 1, all);
        }
    }

    static final List<List<int[]>> ALL_ROWS = new ArrayList<>();

    static List<int[]> rowsOf(int n) {
        while (ALL_ROWS.size() <= n) {
            List<int[]> all = new ArrayList<>();
            if (!ALL_ROWS.isEmpty()) {
                rows(ALL_ROWS.size(), 24, new int[ALL_ROWS.size()], 1, all);
            }
            ALL_ROWS.add(all);
        }
        return ALL_ROWS.get(n);
    }

    static TreeMap<Integer, Integer> wordsOf(int[] row) {
        TreeMap<Integer, Integer> words = new TreeMap<>();
        for (int i = 0; i < row.length; i++) {
            for (int j = 0; j < i; j++) {
                words.merge(row[i] - row[j], 1, Integer::sum);
            }
        }
        return words;
    }

    int fit(int n, int what) {
        if (n < 1 || n > 6 || (what != 0 && (what < 10 || what >= 10 + n))) {
            return -1;
        }
        TreeMap<Integer, Integer> due = new TreeMap<>();
        for (int t : w.told) {
            due.merge(t, 1, Integer::sum);
        }
        int count = 0;
        int[] first = null;
        if (w.told.size() == n * (n - 1) / 2) {
            for (int[] row : rowsOf(n)) {
                if (wordsOf(row).equals(due)) {
                    count++;
                    first = first == null ? row : first;
                }
            }
        }
        return what == 0 ? count : first == null ? -1 : first[what - 10];
    }

    int fewest(int what) {
        if (what != 0 && (what < 10 || what >= 15)) {
            return -1;
        }
        for (int n = 1; n <= 5; n++) {
            for (int[] row : rowsOf(n)) {
                if (wordsOf(row).keySet().containsAll(w.told)) {
                    return what == 0 ? n : what - 10 < n ? row[what - 10] : -1;
                }
            }
        }
        return -1;
    }

    static final int[][] RULERS = new int[7][];

    int ruler(int n, int what) {
        if (n < 1 || n > 6 || (what != 0 && (what < 10 || what >= 10 + n))) {
            return -1;
        }
        if (RULERS[n] == null) {
            for (int[] row : rowsOf(n)) {
                boolean unlike = wordsOf(row).size() == n * (n - 1) / 2;
                if (unlike && (RULERS[n] == null || row[n - 1] < RULERS[n][n - 1])) {
                    RULERS[n] = row;
                }
            }
        }
        return what == 0 ? RULERS[n][n - 1] : RULERS[n][what - 10];
    }

    int alone(int p, int a, int b, int d, int what) {
        if (!sings(p) || !is(a) || !is(b) || p == a || p == b || a == b || d < 0 || d > 60 || (what != 0 && what != 1)) {
            return -1;
        }
        List<Integer> good = new ArrayList<>();
        for (int t = 0; t + d <= 60; t++) {
            int hearers = 0;
            for (int i = 0; i < w.people.size(); i++) {
                if (i != a && i != b && hearing(i, a, b, t, t + d)) {
                    hearers |= 1 << i;
                }
            }
            if (hearers == 1 << p) {
                good.add(t);
            }
        }
        return what == 0 ? good.size() : good.isEmpty() ? -1 : good.get(0);
    }

    int safe(int what) {
        if (what != 0 && what != 1) {
            return -1;
        }
        Set<Integer> can = new HashSet<>();
        for (int a = 0; a < w.people.size(); a++) {
            for (int b = 0; b < w.people.size(); b++) {
                if (a != b && sings(a) && sings(b)) {
                    can.add(Math.abs(hum(a) - hum(b)));
                }
            }
        }
        int[] words = can.stream().mapToInt(i -> i).filter(i -> i >= 1 && i <= 24).sorted().toArray();
        List<Integer> best = new ArrayList<>();
        safeFrom(words, 0, new ArrayList<>(), best);
        int set = 0;
        for (int i : best) {
            set |= 1 << i;
        }
        return what == 0 ? best.size() : set;
    }

    /** Tries the sets in their order, so that the first of the greatest stays. */
    private void safeFrom(int[] words, int i, List<Integer> now, List<Integer> best) {
        if (now.size() > best.size()) {
            best.clear();
            best.addAll(now);
        }
        for (int j = i; j < words.length; j++) {
            if (now.isEmpty() || words[j] - now.get(now.size() - 1) >= 3) {
                now.add(words[j]);
                safeFrom(words, j + 1, now, best);
                now.remove(now.size() - 1);
            }
        }
    }

    boolean undo() {
        if (undo.isEmpty()) {
            return false;
        }
        Told back = undo.removeLast();
        w.state = back.state;
        w.hour = back.hour;
        w.book = back.book;
        for (int i = 0; i < w.people.size(); i++) {
            w.people.get(i)[0] = back.people.get(i)[0];
        }
        return true;
    }

    boolean image(boolean taken) {
        if (taken) {
            kept = w.copy();
            return true;
        }
        if (kept == null) {
            return false;
        }
        w = kept.copy();
        undo.clear();
        return true;
    }

    int look(int what) {
        int[] firsts = {w.people.size(), w.hour, w.book.size(), w.slip, w.state, w.law.size(), undo.size(),
            w.pairs.size(), w.told.size()};
        if (what >= 0 && what < firsts.length) {
            return firsts[what];
        }
        return what >= 10 && what <= 13 ? w.tunes.get(what - 10).size() : -1;
    }

    @Override
    public String toString() {
        return Arrays.toString(new int[] {w.people.size(), w.hour, w.book.size()});
    }
}
