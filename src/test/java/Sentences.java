import java.io.IOException;
import java.nio.ByteBuffer;
import java.nio.charset.StandardCharsets;
import java.nio.file.Files;
import java.nio.file.Path;
import java.util.ArrayList;
import java.util.Arrays;
import java.util.List;
import java.util.Map;
import java.util.TreeMap;
import java.util.function.Consumer;
import java.util.function.ToLongFunction;

/**
 * The document's sentences, each with the test of its own: a test says which words of the document it holds the
 * class to; words that the document does not have are a fault, and so is a sentence that no test has named.
 */
final class Sentences {
    static final int LEAST = Integer.MIN_VALUE;
    static final int MOST = Integer.MAX_VALUE;
    /** The sections before the promises; each promise has its number. */
    static final int WHAT_IT_IS = -1;
    static final int TERMS = 0;

    private final Map<Integer, String> sections = new TreeMap<>();
    private final Map<Integer, boolean[]> named = new TreeMap<>();
    private String now = "";
    private int wrong = 0;
    private int answers = 0;

    Sentences(String document) throws IOException {
        String whole = Files.readString(Path.of(document));
        for (String section : whole.split("\n## ")) {
            if (section.startsWith("What it is")) {
                keep(WHAT_IT_IS, section);
            } else if (section.startsWith("Terms")) {
                keep(TERMS, section);
            } else if (section.startsWith("Promise ")) {
                keep(Integer.parseInt(section.substring(8, section.indexOf(':'))), section);
            }
        }
        need(sections.size() == 29, "what it is, terms and 27 promises, not " + sections.keySet());
    }

    private void keep(int number, String section) {
        String text = section.replaceAll("```(text)?|====", " ").replaceAll("\\s+", " ").trim();
        sections.put(number, text);
        named.put(number, new boolean[text.length()]);
    }

    private void need(boolean good, String what) {
        if (!good) {
            wrong++;
            System.out.println(what);
        }
    }

    /** What follows tests these words of a section, to the next words named. */
    void says(int section, String words) {
        now = (section <= TERMS ? "terms" : "promise " + section) + ", \"" + words + "\"";
        int at = sections.get(section).indexOf(words);
        need(at >= 0, now + ": the document does not say so");
        if (at >= 0) {
            Arrays.fill(named.get(section), at, at + words.length(), true);
        }
    }

    void due(String call, long got, long want) {
        answers++;
        need(got == want, now + ": " + call + " answered " + got + ", due is " + want);
    }

    void due(String call, boolean got, boolean want) {
        due(call, got ? 1 : 0, want ? 1 : 0);
    }

    /** A call that is answered so and leaves no trace at all: an object without it shows just the same. */
    void leavesNoTrace(String call, Consumer<HearDifference> scene, ToLongFunction<HearDifference> made, long want) {
        HearDifference x = in(scene);
        due(call, made.applyAsLong(x), want);
        List<Integer> with = allSeen(x);
        List<Integer> without = allSeen(in(scene));
        need(with.equals(without), now + ": " + call + " left a trace: " + with + ", not " + without);
    }

    static HearDifference in(Consumer<HearDifference> scene) {
        HearDifference x = new HearDifference();
        scene.accept(x);
        return x;
    }

    /** Says which sentences of the sections from one to another no test has named, and how it went. */
    void finish(int from, int to) {
        for (int section = from; section <= to; section++) {
            String text = sections.get(section);
            int begin = 0;
            for (String sentence : text.split("(?<=[^.][.;]) ")) {
                boolean found = false;
                for (int i = begin; i < begin + sentence.length(); i++) {
                    found |= named.get(section)[i];
                }
                boolean words = sentence.matches(".*[A-Za-z]{2}.*");
                need(found || !words, "section " + section + ": no test for '" + sentence + "'");
                begin += sentence.length() + 1;
            }
        }
        System.out.println(wrong == 0 ? answers + " answers at the edges are as due" : wrong + " are not as due");
        if (wrong != 0) {
            System.exit(1);
        }
    }

    /** People with told hums, all of them sounding who can. */
    static HearDifference choir(int... hums) {
        HearDifference x = new HearDifference();
        come(x, hums);
        return x;
    }

    static void come(HearDifference x, int... hums) {
        for (int hum : hums) {
            int number = x.person(hum);
            if (hum >= 0) {
                x.set(1, number, 1);
            }
        }
    }

    /** Puts a text behind an empty tape. */
    static void feed(HearDifference x, String text) {
        x.end(0);
        byte[] bytes = Arrays.copyOf(text.getBytes(StandardCharsets.ISO_8859_1), (text.length() + 19) / 20 * 20);
        ByteBuffer b = ByteBuffer.wrap(bytes);
        while (b.remaining() > 0) {
            x.feed(b.getInt(), b.getInt(), b.getInt(), b.getInt(), b.getInt());
        }
        x.end(text.length());
    }

    static int law(HearDifference x, String text) {
        feed(x, text);
        return x.text();
    }

    static void sing(HearDifference x, int tune, int... tones) {
        x.tune(tune, -1);
        for (int tone : tones) {
            x.tune(tune, tone);
        }
    }

    static void tell(HearDifference x, int... words) {
        x.tell(-1);
        for (int word : words) {
            x.tell(word);
        }
    }

    static void nobody(HearDifference x) {
        x.hours(1);
    }

    static void three(HearDifference x) {
        come(x, 10, 14, -1);
        x.pair(0, 1);
        x.speak(0, 1);
    }

    /** Ten people, and all lists full but the book, the law and the tape. */
    static void full(HearDifference x) {
        come(x, 0, 60, 7, 19, -1, 30, 30, 44, 58, 3);
        x.set(1, 9, 0);
        x.set(2, 3, 9);
        x.set(3, 0, 500);
        x.state(77);
        law(x, "miss when apart > 30 and crowd > 5; hear when near < 12; miss when who = 3;");
        law(x, "hear hear");
        sing(x, 0, 0, 60, 5, 9, 5, 1, 2, 3, 4, 8, 7, 6);
        sing(x, 1, 0, 60, 5, 9, 5, 1, 2, 3, 4, 8, 7, 6);
        sing(x, 2, 9, 10, 12);
        for (int i = 0; i < 8; i++) {
            x.pair(i, i + 2);
        }
        tell(x, 1, 4, 10, 12, 17, 3, 9, 11, 16, 6, 8, 13, 2, 7, 5);
        x.speak(0, 1);
        x.hours(2);
        x.image(true);
        x.speak(3, 2);
        x.hours(1);
        feed(x, "miss; hear when low<hum;");
    }

    /** All that can be seen of it, its tape, what can be undone and its image too: it is used up by it. */
    static List<Integer> allSeen(HearDifference x) {
        List<Integer> seen = new ArrayList<>();
        seeAll(x, seen);
        seen.add(x.text());
        seen.add(x.fault(0));
        seen.add(x.fault(1));
        seen.add(x.hears(0, 2, 3));
        for (int i = 0; i < 9 && x.undo(); i++) {
            seeNow(x, seen);
        }
        if (x.image(false)) {
            seeAll(x, seen);
        }
        return seen;
    }

    private static void seeNow(HearDifference x, List<Integer> seen) {
        for (int what = 0; what <= 6; what++) {
            seen.add(x.look(what));
        }
        int people = x.look(0);
        for (int person = 0; person < people; person++) {
            seen.add(x.of(person, 0));
        }
    }

    private static void seeAll(HearDifference x, List<Integer> seen) {
        seeNow(x, seen);
        for (int what : new int[] {7, 8, 10, 11, 12, 13}) {
            seen.add(x.look(what));
        }
        int people = x.look(0);
        for (int person = 0; person < people; person++) {
            for (int what = 1; what <= 4; what++) {
                seen.add(x.of(person, what));
            }
        }
        int lines = Math.min(3, x.look(2));
        for (int line = 0; line < lines; line++) {
            for (int what = 0; what < 5; what++) {
                seen.add(x.book(line, what));
            }
        }
        for (int what = 9; what < 18; what++) {
            seen.add(x.turnOf(what));
            seen.add(x.fit(6, what));
        }
        seen.add(x.fewest(0));
        seen.add(x.same(0, 1));
        seen.add(x.same(0, 2));
        seen.add(x.same(3, 0));
        seen.add(x.fault(0));
        seen.add(x.fault(1));
    }
}
