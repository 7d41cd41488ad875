import java.nio.ByteBuffer;
import java.nio.charset.StandardCharsets;
import java.util.ArrayList;
import java.util.Arrays;
import java.util.List;
import java.util.Random;

/** Runs of calls by chance, held against NaiveModel; a fixed seed for each run. */
public final class ModelTest {
    private static final int RUNS = 400;
    private static final int CALLS = 512;

    private final Random chance;
    private final HearDifference real = new HearDifference();
    private final NaiveModel naive = new NaiveModel();
    private final List<String> said = new ArrayList<>();
    private int calls = 0;
    private boolean wrong = false;

    private ModelTest(long seed) {
        chance = new Random(seed);
    }

    public static void main(String[] args) {
        int wrongRuns = 0;
        int goodLaws = 0;
        for (long seed = 0; seed < RUNS && wrongRuns < 3; seed++) {
            ModelTest t = new ModelTest(seed);
            t.run();
            goodLaws += t.said.stream().anyMatch(s -> s.startsWith("text() = ") && !s.endsWith("= -1")) ? 1 : 0;
            if (t.wrong) {
                wrongRuns++;
                System.out.println("seed " + seed + ": " + t.said.subList(Math.max(0, t.said.size() - 30), t.said.size()));
            }
        }
        System.out.println(wrongRuns == 0 ? "the class and the model agree" : "they do not agree");
        if (goodLaws < RUNS / 2 && wrongRuns == 0) {
            System.out.println("too few good laws: " + goodLaws);
            System.exit(1);
        }
        if (wrongRuns != 0) {
            System.exit(1);
        }
    }

    private int below(int n) {
        return chance.nextInt(n);
    }

    private int pick(int... from) {
        return from[below(from.length)];
    }

    private int wild() {
        return pick(Integer.MIN_VALUE, Integer.MAX_VALUE, -1000, -2, 1000, 61, 10, -1, 100, 10000);
    }

    private int some(int low, int high) {
        return below(15) == 0 ? wild() : low + below(high - low + 1);
    }

    private int who() {
        return some(0, Math.max(0, naive.w.people.size() - 1));
    }

    private void check(String call, long got, long due) {
        calls++;
        said.add(call + " = " + got);
        if (got != due) {
            wrong = true;
            said.add("DUE " + due);
        }
    }

    private void check(String call, boolean got, boolean due) {
        check(call, got ? 1 : 0, due ? 1 : 0);
    }

    private void run() {
        int people = below(11);
        for (int i = 0; i < people; i++) {
            person(below(8) == 0 ? -1 : below(61));
            if (below(2) == 0) {
                set(1, i, 1);
            }
        }
        if (below(3) > 0) {
            law(goodLaw());
        }
        while (calls < CALLS - 30 && !wrong) {
            act();
        }
    }

    private void act() {
        switch (below(26)) {
            case 0 -> state();
            case 1 -> person(some(-1, 60));
            case 2, 3, 4 -> setSome();
            case 5, 6 -> law(below(2) == 0 ? goodLaw() : spoilt(goodLaw()));
            case 7, 8, 9 -> speak(who(), who());
            case 10 -> hours(below(12) == 0 ? wild() : 1 + below(below(3) == 0 ? 100 : 4));
            case 11 -> {
                int p = who();
                for (int what = 0; what < 6; what++) {
                    check("of(" + p + ", " + what + ")", real.of(p, what), naive.of(p, what));
                }
            }
            case 12, 13 -> {
                int p = who();
                int a = who();
                int b = who();
                check("hears(" + p + ", " + a + ", " + b + ")", real.hears(p, a, b), naive.hears(p, a, b));
                check("deaf(" + p + ", " + a + ")", real.deaf(p, a), naive.deaf(p, a));
            }
            case 14 -> readBook();
            case 15, 16 -> tunes();
            case 17 -> pairs();
            case 18 -> told();
            case 19 -> ruler();
            case 20 -> alone();
            case 21 -> {
                int what = some(-1, 2);
                check("safe(" + what + ")", real.safe(what), naive.safe(what));
            }
            case 22, 23 -> {
                for (int i = below(4); i >= 0; i--) {
                    check("undo()", real.undo(), naive.undo());
                }
            }
            case 24 -> {
                boolean taken = below(3) > 0;
                check("image(" + taken + ")", real.image(taken), naive.image(taken));
            }
            default -> tape();
        }
        lookAt(below(15) - 1);
        lookAt(pick(1, 2, 4, 6, wild()));
    }

    private void lookAt(int what) {
        check("look(" + what + ")", real.look(what), naive.look(what));
    }

    private void state() {
        int v = chance.nextInt();
        check("state(" + v + ")", real.state(v), naive.state(v));
    }

    private void person(int hum) {
        check("person(" + hum + ")", real.person(hum), naive.person(hum));
    }

    private void set(int what, int person, int v) {
        check("set(" + what + ", " + person + ", " + v + ")", real.set(what, person, v), naive.set(what, person, v));
    }

    private void setSome() {
        switch (below(5)) {
            case 0 -> set(0, who(), below(4) == 0 ? pick(-1, 0, 60, 1, 59) : some(-1, 60));
            case 1 -> set(1, who(), some(0, 1));
            case 2 -> set(2, who(), some(0, 9));
            case 3 -> set(3, wild(), below(3) == 0 ? pick(0, 1000, 1001, -1) : below(1001));
            default -> set(some(-1, 4), who(), some(-1, 60));
        }
    }

    private void speak(int a, int b) {
        int times = below(6) == 0 ? below(12) : 1;
        for (int i = 0; i < times; i++) {
            check("speak(" + a + ", " + b + ")", real.speak(a, b), naive.speak(a, b));
        }
    }

    private void hours(int n) {
        check("hours(" + n + ")", real.hours(n), naive.hours(n));
    }

    private void readBook() {
        int i = below(2) == 0 ? naive.w.book.size() - 1 : some(-1, naive.w.book.size());
        for (int what = -1; what <= 5; what++) {
            check("book(" + i + ", " + what + ")", real.book(i, what), naive.book(i, what));
        }
    }

    private void addTone(int tune, int tone) {
        check("tune(" + tune + ", " + tone + ")", real.tune(tune, tone), naive.tune(tune, tone));
    }

    private void tunes() {
        int t = below(4);
        if (below(3) > 0) {
            int u = below(4);
            List<Integer> from = new ArrayList<>(naive.w.tunes.get(u));
            int turned = below(2);
            int by = below(9) - 4;
            addTone(t, -1);
            for (int x : from) {
                addTone(t, (turned == 1 ? 60 - x : x) + by);
            }
        }
        for (int i = below(4); i > 0; i--) {
            addTone(some(0, 3), some(0, 60));
        }
        int a = some(0, 3);
        int b = below(3) == 0 ? a : some(0, 3);
        check("same(" + a + ", " + b + ")", real.same(a, b), naive.same(a, b));
        check("same(" + b + ", " + t + ")", real.same(b, t), naive.same(b, t));
    }

    private void pairs() {
        for (int i = 1 + below(5); i > 0; i--) {
            int a = below(30) == 0 ? -1 : who();
            int b = who();
            check("pair(" + a + ", " + b + ")", real.pair(a, b), naive.pair(a, b));
        }
        check("turnOf(0)", real.turnOf(0), naive.turnOf(0));
        for (int what = 9; what < 19; what += 1 + below(3)) {
            check("turnOf(" + what + ")", real.turnOf(what), naive.turnOf(what));
        }
        int what = wild();
        check("turnOf(" + what + ")", real.turnOf(what), naive.turnOf(what));
    }

    private void tellWord(int word) {
        check("tell(" + word + ")", real.tell(word), naive.tell(word));
    }

    /** Often just the words of a row, so that there are rows which fit. */
    private void told() {
        if (below(3) > 0) {
            tellWord(-1);
            List<int[]> rows = NaiveModel.rowsOf(1 + below(6));
            NaiveModel.wordsOf(rows.get(below(rows.size()))).forEach((word, times) -> {
                for (int i = 0; i < times; i++) {
                    tellWord(word);
                }
            });
        }
        if (below(3) == 0) {
            for (int i = below(3); i >= 0; i--) {
                tellWord(some(1, 24));
            }
        }
        for (int n = 1 + below(3); n <= 6; n++) {
            check("fit(" + n + ", 0)", real.fit(n, 0), naive.fit(n, 0));
            int what = some(9, 16);
            check("fit(" + n + ", " + what + ")", real.fit(n, what), naive.fit(n, what));
        }
        int n = wild();
        check("fit(" + n + ", 0)", real.fit(n, 0), naive.fit(n, 0));
        check("fewest(0)", real.fewest(0), naive.fewest(0));
        for (int what = 9; what < 16; what += 1 + below(4)) {
            check("fewest(" + what + ")", real.fewest(what), naive.fewest(what));
        }
    }

    private void ruler() {
        int n = some(0, 7);
        int what = below(4) == 0 ? 0 : some(9, 16);
        check("ruler(" + n + ", " + what + ")", real.ruler(n, what), naive.ruler(n, what));
    }

    private void alone() {
        int p = who();
        int a = who();
        int b = who();
        int d = below(2) == 0 ? below(12) : some(0, 61);
        for (int what = -1; what <= 2; what++) {
            check("alone(" + p + ", " + a + ", " + b + ", " + d + ", " + what + ")",
                real.alone(p, a, b, d, what), naive.alone(p, a, b, d, what));
        }
    }

    private void feed(int[] n) {
        check("feed(" + Arrays.toString(n) + ")", real.feed(n[0], n[1], n[2], n[3], n[4]),
            naive.feed(n[0], n[1], n[2], n[3], n[4]));
    }

    private void cut(int n) {
        check("end(" + n + ")", real.end(n), naive.end(n));
    }

    private void tape() {
        for (int i = below(below(5) == 0 ? 22 : 3); i > 0; i--) {
            feed(chance.ints(5).toArray());
        }
        cut(below(2) == 0 ? wild() : below(1 + naive.tape.size()));
        if (below(2) == 0) {
            read();
        }
    }

    private void read() {
        check("text()", real.text(), naive.text());
        for (int what = -1; what <= 2; what++) {
            check("fault(" + what + ")", real.fault(what), naive.fault(what));
        }
    }

    private void law(String text) {
        said.add("LAW " + text);
        cut(0);
        byte[] bytes = Arrays.copyOf(text.getBytes(StandardCharsets.ISO_8859_1), (text.length() + 19) / 20 * 20);
        ByteBuffer b = ByteBuffer.wrap(bytes);
        while (b.remaining() > 0) {
            feed(new int[] {b.getInt(), b.getInt(), b.getInt(), b.getInt(), b.getInt()});
        }
        cut(text.length());
        read();
    }

    private String goodLaw() {
        StringBuilder s = new StringBuilder();
        int lines = below(12) == 0 ? 14 + below(5) : below(4);
        for (int i = 0; i < lines; i++) {
            s.append(below(2) == 0 ? "hear" : "miss");
            if (below(8) > 0 || lines > 4) {
                s.append(gap()).append("when ").append(lines > 4 ? "low<" + below(60) : any(0));
            }
            s.append(gap()).append(";").append(gap());
        }
        return s.length() > 400 ? s.substring(0, 400) : s.toString();
    }

    private String gap() {
        return pick(0, 1, 2) == 0 ? "" : below(5) == 0 ? " \n " : " ";
    }

    private String any(int deep) {
        StringBuilder s = new StringBuilder(all(deep));
        while (below(4) == 0) {
            s.append(" or ").append(all(deep));
        }
        return s.toString();
    }

    private String all(int deep) {
        StringBuilder s = new StringBuilder(one(deep));
        while (below(4) == 0) {
            s.append(gap()).append(" and ").append(one(deep));
        }
        return s.toString();
    }

    private String one(int deep) {
        boolean deeper = deep > 0 && deep < 10 ? below(5) < 3 : below(4) == 0;
        if (!deeper || deep > 9) {
            return sum() + gap() + "<=>".charAt(below(3)) + gap() + sum();
        }
        return below(2) == 0 ? "not " + one(deep + 1) : "(" + gap() + any(deep + 1) + gap() + ")";
    }

    private String sum() {
        StringBuilder s = new StringBuilder(product());
        while (below(4) == 0) {
            s.append(gap()).append("+-".charAt(below(2))).append(gap()).append(product());
        }
        return s.toString();
    }

    private String product() {
        StringBuilder s = new StringBuilder(unit());
        while (below(5) == 0) {
            s.append(below(2) == 0 ? "*" + unit() : "/ " + (below(12) == 0 ? "00" : 1 + below(12)));
        }
        return s.toString();
    }

    private String unit() {
        String[] terms = {"low", "high", "apart", "hum", "near", "loud", "crowd", "hour", "who"};
        return below(5) < 3 ? terms[below(terms.length)] : String.valueOf(below(below(10) == 0 ? 10000 : 40));
    }

    private String spoilt(String good) {
        StringBuilder s = new StringBuilder(good);
        String[] bits = {"(", ")", "not ", ";", " 0", "12345", "hear", " when ", "Low", "\t", "/", "/0", "=", "*",
            " and ", "x", "\u00e9", "\u0000", ".", "-", "or", "00"};
        for (int i = below(3); i >= 0; i--) {
            int at = below(s.length() + 1);
            if (below(2) == 0 && at < s.length()) {
                s.deleteCharAt(at);
            } else {
                s.insert(at, bits[below(bits.length)]);
            }
        }
        return s.length() > 400 ? s.substring(0, 400) : s.toString();
    }
}
