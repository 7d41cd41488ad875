import java.util.Arrays;
import java.util.List;
import java.util.function.Consumer;

/** Each sentence of each promise: its edges, and its refused calls, which leave nothing behind. */
public final class PromiseEdgesTest {
    private static final int LEAST = Sentences.LEAST;
    private static final int MOST = Sentences.MOST;
    private static final List<Consumer<HearDifference>> SCENES =
        List.of(x -> { }, Sentences::nobody, Sentences::three, Sentences::full);
    private static final Consumer<HearDifference> THREE = Sentences::three;
    private static final Consumer<HearDifference> FULL = Sentences::full;
    private static Sentences doc;

    public static void main(String[] args) throws Exception {
        doc = new Sentences(args[1]);
        newObject();
        state();
        person();
        set();
        feed();
        end();
        text();
        fault();
        speak();
        hours();
        of();
        hears();
        deaf();
        book();
        tune();
        same();
        pair();
        turnOf();
        tell();
        fit();
        fewest();
        ruler();
        alone();
        safe();
        undo();
        image();
        look();
        doc.finish(1, 27);
    }

    private static void due(String call, long got, long want) {
        doc.due(call, got, want);
    }

    private static void due(String call, boolean got, boolean want) {
        doc.due(call, got, want);
    }

    private static void newObject() {
        doc.says(1, "Nobody there.");
        HearDifference x = new HearDifference();
        for (int what = 0; what <= 14; what++) {
            due("look(" + what + ")", x.look(what), what == 9 || what == 14 ? -1 : 0);
        }
        due("of(0, 0)", x.of(0, 0), -2);
        due("speak(0, 1)", x.speak(0, 1), -1);
        due("book(0, 0)", x.book(0, 0), -1);
        due("fault(0)", x.fault(0), 0);
        due("fault(1)", x.fault(1), -1);
        due("safe(1)", x.safe(1), 0);
        due("undo()", x.undo(), false);
        due("image(false)", x.image(false), false);
        due("end(1)", x.end(1), false);
        due("text()", x.text(), 0);
        HearDifference other = new HearDifference();
        x.person(5);
        due("another object knows nothing of it", other.look(0), 0);
    }

    private static void state() {
        doc.says(2, "STATE is told: what it was.");
        HearDifference x = new HearDifference();
        int before = 0;
        for (int v : new int[] {LEAST, MOST, -1, 0, 1}) {
            due("state(" + v + ")", x.state(v), before);
            before = v;
        }
    }

    private static void person() {
        doc.says(3, "A PERSON (hum NONE: none): the number");
        HearDifference x = new HearDifference();
        int[] hums = {-1, 0, 60};
        for (int i = 0; i < 3; i++) {
            due("person(" + hums[i] + ")", x.person(hums[i]), i);
            due("of(" + i + ", 0)", x.of(i, 0), hums[i]);
        }
        doc.says(3, "NONE if one can't be, or there are ten.");
        for (int hum : new int[] {-2, 61, LEAST, MOST}) {
            for (Consumer<HearDifference> scene : SCENES) {
                doc.leavesNoTrace("person(" + hum + ")", scene, y -> y.person(hum), -1);
            }
        }
        for (int hum : new int[] {-1, 0, 60}) {
            doc.leavesNoTrace("the eleventh, person(" + hum + ")", FULL, y -> y.person(hum), -1);
        }
    }

    private static void refusedSet(int what, int person, int v) {
        String call = "set(" + what + ", " + person + ", " + v + ")";
        doc.leavesNoTrace(call, THREE, x -> x.set(what, person, v) ? 1 : 0, 0);
    }

    private static void set() {
        doc.says(4, "Of a PERSON what 0 HUM (NONE: none");
        HearDifference x = Sentences.choir(10, 20);
        for (int hum : new int[] {0, 60, -1}) {
            due("set(0, 1, " + hum + ")", x.set(0, 1, hum), true);
            due("of(1, 0)", x.of(1, 0), hum);
        }
        due("the other one", x.of(0, 0), 10);
        doc.says(4, "he is silent then), 1 SOUNDING (0, 1), 2 LOUD");
        due("of(1, 1)", x.of(1, 1), 0);
        due("silent, told to be", x.set(1, 1, 0), true);
        due("set(0, 1, 60)", x.set(0, 1, 60), true);
        due("of(1, 1)", x.of(1, 1), 0);
        due("set(1, 1, 1)", x.set(1, 1, 1), true);
        due("of(1, 1)", x.of(1, 1), 1);
        due("set(1, 1, 1) again", x.set(1, 1, 1), true);
        due("of(1, 1)", x.of(1, 1), 1);
        due("set(1, 1, 0)", x.set(1, 1, 0), true);
        due("of(1, 1)", x.of(1, 1), 0);
        due("the other one", x.of(0, 1), 1);
        for (int loud : new int[] {0, 9}) {
            due("set(2, 1, " + loud + ")", x.set(2, 1, loud), true);
            due("of(1, 2)", x.of(1, 2), loud);
        }
        doc.says(4, "3 SLIP (PERSON not asked): true");
        for (int person : new int[] {-1, 0, 2, 10, LEAST, MOST}) {
            due("set(3, " + person + ", 1000)", x.set(3, person, 1000), true);
            due("look(3)", x.look(3), 1000);
            due("set(3, " + person + ", 0)", x.set(3, person, 0), true);
            due("look(3)", x.look(3), 0);
        }
        due("nobody there", new HearDifference().set(3, 0, 5), true);
        doc.says(4, "false if one can't be, or another what.");
        int[][] cannot = {{0, 0, -2}, {0, 0, 61}, {0, 0, LEAST}, {0, 0, MOST}, {1, 0, -1}, {1, 0, 2}, {1, 0, LEAST},
            {1, 0, MOST}, {1, 2, 1}, {2, 0, -1}, {2, 0, 10}, {2, 0, LEAST}, {2, 0, MOST}, {3, 0, -1}, {3, 0, 1001},
            {3, 0, LEAST}, {3, 0, MOST}, {-1, 0, 1}, {4, 0, 1}, {LEAST, 0, 1}, {MOST, 0, 1}};
        for (int[] c : cannot) {
            refusedSet(c[0], c[1], c[2]);
        }
        for (int person : new int[] {-1, 3, 10, LEAST, MOST}) {
            for (int what = 0; what <= 2; what++) {
                refusedSet(what, person, 1);
            }
        }
        for (int what = 0; what <= 2; what++) {
            int w = what;
            doc.leavesNoTrace("set of the eleventh", FULL, y -> y.set(w, 10, 1) ? 1 : 0, 0);
        }
    }

    private static void twentyFeeds(HearDifference x) {
        for (int i = 0; i < 20; i++) {
            x.feed(0x20202020, 0x20202020, 0x20202020, 0x20202020, 0x20202020);
        }
    }

    private static void feed() {
        doc.says(5, "Twenty bytes come behind the TAPE, of each number the highest first: how many it has.");
        HearDifference x = new HearDifference();
        for (int i = 1; i <= 20; i++) {
            due("feed", x.feed(LEAST, MOST, -1, 0, 1), 20 * i);
        }
        x.end(0);
        due("feed", x.feed(0x68656172, 0x3b6d6973, 0x733b6865, 0x61723b6d, 0x6973733b), 20);
        due("hear;miss;hear;miss;", x.text(), 4);
        x.feed(0x68656172, 0x20202020, 0x20202020, 0x20202020, 0x2020203b);
        due("the last byte", x.text(), 1);
        x.feed(0x20202020, 0x20202020, 0x20202020, 0x20202020, 0x20202068);
        due("behind the tape", x.feed(0x6561723b, 0x20202020, 0x20202020, 0x20202020, 0x20202020), 40);
        due("a word over two feeds", x.text(), 1);
        x.feed(0x68656172, 0x3b20ff20, 0, 0, 0);
        x.end(8);
        x.text();
        due("a byte of 255", x.fault(1), 6);
        x.feed(0x68656172, 0x3b000000, 0, 0, 0);
        x.end(7);
        due("behind the 7 that are left", x.feed(0, 0, 0, 0, 0), 27);
        doc.says(5, "NONE, and nothing comes, if there would be more than 400.");
        doc.leavesNoTrace("the 21st feed", PromiseEdgesTest::twentyFeeds, y -> y.feed(1, 2, 3, 4, 5), -1);
        doc.leavesNoTrace("feed behind 381", y -> {
            twentyFeeds(y);
            y.end(381);
        }, y -> y.feed(1, 2, 3, 4, 5), -1);
        HearDifference z = new HearDifference();
        twentyFeeds(z);
        z.end(380);
        due("feed behind 380", z.feed(0, 0, 0, 0, 0), 400);
        due("and no more", z.feed(0, 0, 0, 0, 0), -1);
        z.text();
        due("feed after text()", z.feed(0, 0, 0, 0, 0), 20);
    }

    private static void end() {
        doc.says(6, "The TAPE has its first n bytes alone: true");
        HearDifference x = new HearDifference();
        due("end(0) of none", x.end(0), true);
        Sentences.feed(x, "hear;x");
        due("all that it has", x.end(6), true);
        due("one less", x.end(5), true);
        due("text()", x.text(), 1);
        Sentences.feed(x, "hear;");
        due("none", x.end(0), true);
        due("text()", x.text(), 0);
        twentyFeeds(x);
        due("end(400) of 400", x.end(400), true);
        due("end(399)", x.end(399), true);
        due("end(400) of 399", x.end(400), false);
        doc.says(6, "false, changing nothing, if it has not so many, or n is below 0.");
        for (int n : new int[] {-1, 25, 400, 401, LEAST, MOST}) {
            doc.leavesNoTrace("end(" + n + ") of 24", FULL, y -> y.end(n) ? 1 : 0, 0);
        }
        doc.leavesNoTrace("end(1) of 0", y -> { }, y -> y.end(1) ? 1 : 0, 0);
        doc.leavesNoTrace("end(401) of 400", PromiseEdgesTest::twentyFeeds, y -> y.end(401) ? 1 : 0, 0);
    }

    private static void text() {
        doc.says(7, "The TAPE, empty then, is THE LAW: how many lines.");
        HearDifference x = Sentences.choir(1, 2, 3);
        due("no line", x.text(), 0);
        due("one", Sentences.law(x, "miss;"), 1);
        due("empty then", x.end(1), false);
        due("hears", x.hears(0, 1, 2), 0);
        due("sixteen", Sentences.law(x, "hear;".repeat(16)), 16);
        due("look(5)", x.look(5), 16);
        due("fewer than before", Sentences.law(x, "miss;miss;"), 2);
        due("look(5)", x.look(5), 2);
        due("400 bytes", Sentences.law(x, "hear when " + "low+".repeat(96) + "1=1 \n;"), 1);
        due("an empty tape: an empty law", x.text(), 0);
        due("look(5)", x.look(5), 0);
        due("yes without a line", x.hears(0, 1, 2), 1);
        doc.says(7, "NONE: a FAULT (it stays as it was).");
        Sentences.law(x, "hear when who=0; miss;");
        for (String bad : new String[] {"x", "hear", "miss;miss;x", "hear when 1/0=1;", "miss;".repeat(17),
            "hear when " + "(".repeat(9), "miss;" + " ".repeat(394) + "x"}) {
            due("text() of " + bad, Sentences.law(x, bad), -1);
            due("look(5)", x.look(5), 2);
            due("hears(0, 1, 2)", x.hears(0, 1, 2), 1);
            due("hears(1, 0, 2)", x.hears(1, 0, 2), 0);
            due("the TAPE is empty", x.end(1), false);
        }
    }

    private static void fault() {
        doc.says(8, "Of the latest text() what 0 the FAULT (0 without one), 1 its place (NONE).");
        HearDifference x = new HearDifference();
        due("fault(0) before any", x.fault(0), 0);
        due("fault(1) before any", x.fault(1), -1);
        String[] texts = {"x", "", "hear when 1/0=1;", "miss;", "hear;".repeat(17), "hear when 1=1" + " ".repeat(387)};
        int[][] faults = {{1, 0}, {0, -1}, {2, 12}, {0, -1}, {3, 80}, {1, 400}};
        for (int i = 0; i < texts.length; i++) {
            Sentences.law(x, texts[i]);
            due("fault(0) of " + texts[i], x.fault(0), faults[i][0]);
            due("fault(1) of " + texts[i], x.fault(1), faults[i][1]);
            due("fault(0) asked again", x.fault(0), faults[i][0]);
        }
        doc.says(8, "NONE for another what.");
        for (int what : new int[] {-1, 2, LEAST, MOST}) {
            doc.leavesNoTrace("fault(" + what + ")", FULL, y -> y.fault(what), -1);
        }
    }

    private static void speak() {
        doc.says(9, "A SPEAKING: who HEARS it, as a set");
        HearDifference x = Sentences.choir(1, 2);
        due("nobody else there", x.speak(0, 1), 0);
        x.person(-1);
        due("one without a HUM", x.speak(0, 1), 0);
        x.set(0, 2, 0);
        due("one who hears", x.speak(1, 0), 4);
        HearDifference ten = Sentences.choir(1, 2, 3, 4, 5, 6, 7, 8, 9, 10);
        due("eight", ten.speak(8, 9), 255);
        due("eight", ten.speak(0, 1), 1020);
        doc.says(9, "NONE, and nothing is done, if one can't be (alike, without a HUM).");
        int[][] cannot = {{0, 0}, {1, 1}, {0, 2}, {2, 0}, {2, 2}, {0, 3}, {3, 0}, {0, -1}, {-1, 0}, {-1, -1},
            {LEAST, 0}, {0, MOST}, {10, 11}};
        for (int[] c : cannot) {
            doc.leavesNoTrace("speak" + Arrays.toString(c), THREE, y -> y.speak(c[0], c[1]), -1);
        }
        doc.leavesNoTrace("speak(4, 5)", FULL, y -> y.speak(4, 5), -1);
        doc.leavesNoTrace("speak(0, 10)", FULL, y -> y.speak(0, 10), -1);
    }

    private static void untilHour(HearDifference x, int hour) {
        while (x.look(1) + 100 <= hour) {
            x.hours(100);
        }
        x.hours(hour - x.look(1));
    }

    private static void hours() {
        doc.says(10, "HOURS go by (1 .. 100)");
        HearDifference x = new HearDifference();
        due("hours(1)", x.hours(1), 0);
        due("look(1)", x.look(1), 1);
        due("hours(100)", x.hours(100), 0);
        due("look(1)", x.look(1), 101);
        doc.says(10, "how many HUMS slipped (also those that stayed at 0, 60).");
        HearDifference low = Sentences.choir(0, 60, 30, -1);
        low.set(3, 0, 1000);
        due("hours(100), three at each", low.hours(100), 300);
        due("hours(1)", low.hours(1), 3);
        low.set(1, 0, 0);
        due("two at each", low.hours(10), 20);
        doc.says(10, "NONE, and nothing is done, if one can't be, or HOUR would be above 9999.");
        for (int n : new int[] {0, -1, 101, LEAST, MOST}) {
            for (Consumer<HearDifference> scene : SCENES) {
                doc.leavesNoTrace("hours(" + n + ")", scene, y -> y.hours(n), -1);
            }
        }
        for (int hour : new int[] {9900, 9950, 9998, 9999}) {
            for (int more : new int[] {10000 - hour, 100}) {
                doc.leavesNoTrace("hours(" + more + ") at " + hour, y -> untilHour(y, hour), y -> y.hours(more), -1);
            }
        }
        HearDifference last = new HearDifference();
        untilHour(last, 9900);
        due("hours(99) at 9900", last.hours(99), 0);
        due("look(1)", last.look(1), 9999);
        last.undo();
        due("hours(1) at 9998", last.hours(1), 0);
        due("look(1)", last.look(1), 9999);
    }

    private static void of() {
        doc.says(11, "Of a PERSON what 0 HUM (NONE), 1 SOUNDING (1, 0), 2 LOUD, 3 ALL couples, 4 ALL unlike WORDS.");
        HearDifference x = Sentences.choir(-1, 0, 60, 60);
        int[][] answers = {{-1, 0, 5, 0, 0}, {0, 1, 5, 1, 1}, {60, 1, 5, 1, 1}};
        for (int person = 0; person < 3; person++) {
            for (int what = 0; what < 5; what++) {
                due("of(" + person + ", " + what + ")", x.of(person, what), answers[person][what]);
            }
        }
        doc.says(11, "NONE - 1 if there is none such, or another what.");
        for (int person : new int[] {-1, 3, 10, LEAST, MOST}) {
            for (int what = 0; what < 5; what++) {
                int w = what;
                doc.leavesNoTrace("of(" + person + ", " + what + ")", THREE, y -> y.of(person, w), -2);
            }
        }
        for (int what : new int[] {-1, 5, LEAST, MOST}) {
            doc.leavesNoTrace("of(0, " + what + ")", THREE, y -> y.of(0, what), -2);
        }
        doc.leavesNoTrace("of(10, 0)", FULL, y -> y.of(10, 0), -2);
        due("of(0, 0) of nobody", new HearDifference().of(0, 0), -2);
    }

    private static void hears() {
        doc.says(12, "Whether a PERSON HEARS two other ones (1, 0), whether they are SOUNDING or not");
        HearDifference x = new HearDifference();
        for (int i = 0; i < 4; i++) {
            x.person(10 * i);
        }
        x.person(-1);
        due("silent ones", x.hears(0, 1, 2), 1);
        x.set(1, 1, 1);
        due("one of them sounds", x.hears(0, 1, 2), 1);
        x.set(1, 2, 1);
        due("both sound", x.hears(0, 2, 1), 1);
        due("one without a HUM", x.hears(4, 1, 2), 0);
        Sentences.law(x, "miss when low=10 and high=20;");
        due("hears(0, 1, 2)", x.hears(0, 1, 2), 0);
        due("hears(0, 1, 3)", x.hears(0, 1, 3), 1);
        doc.says(12, "NONE if one can't be (not three unlike ones");
        int[][] cannot = {{0, 0, 1}, {0, 1, 0}, {0, 1, 1}, {0, 0, 0}, {9, 9, 1}, {10, 0, 1}, {0, 10, 1}, {0, 1, 10},
            {-1, 0, 1}, {0, -1, 1}, {0, 1, -1}, {LEAST, 0, 1}, {0, MOST, 1}, {0, 1, LEAST}, {4, 4, 1}};
        for (int[] c : cannot) {
            doc.leavesNoTrace("hears" + Arrays.toString(c), FULL, y -> y.hears(c[0], c[1], c[2]), -1);
        }
        doc.says(12, "those two without a HUM).");
        doc.leavesNoTrace("hears(0, 4, 1)", FULL, y -> y.hears(0, 4, 1), -1);
        doc.leavesNoTrace("hears(0, 1, 4)", FULL, y -> y.hears(0, 1, 4), -1);
        HearDifference none = Sentences.choir(-1, -1, -1);
        due("all without a HUM", none.hears(0, 1, 2), -1);
    }

    private static void deaf() {
        doc.says(13, "DEAF of a PERSON without another one");
        HearDifference x = Sentences.choir(1, 2, 3, -1);
        due("deaf(0, 1)", x.deaf(0, 1), 1);
        due("deaf(3, 0)", x.deaf(3, 0), 0);
        due("deaf(0, 3)", x.deaf(0, 3), 0);
        doc.says(13, "NONE - 999 if one can't be (alike).");
        int[][] cannot = {{0, 0}, {9, 9}, {0, 10}, {10, 0}, {-1, 0}, {0, -1}, {-1, -1}, {LEAST, 0}, {0, MOST}};
        for (int[] c : cannot) {
            doc.leavesNoTrace("deaf" + Arrays.toString(c), FULL, y -> y.deaf(c[0], c[1]), -1000);
        }
        due("nobody there", new HearDifference().deaf(0, 1), -1000);
        due("another one is not there", Sentences.choir(5).deaf(0, 1), -1000);
    }

    private static void book() {
        doc.says(14, "Of line i of THE BOOK what 0, 1 both, 2 WORD, 3 HOUR, 4 the set.");
        HearDifference x = Sentences.choir(5, 65 - 5, 5, 9);
        x.hours(7);
        x.speak(2, 0);
        x.speak(1, 3);
        int[][] lines = {{0, 2, 0, 7, 10}, {1, 3, 51, 7, 5}};
        for (int i = 0; i < 2; i++) {
            for (int what = 0; what < 5; what++) {
                due("book(" + i + ", " + what + ")", x.book(i, what), lines[i][what]);
            }
        }
        x.set(0, 0, 6);
        due("a line stays when HUMS are moved", x.book(0, 2), 0);
        doc.says(14, "NONE if there is none such, or another what.");
        for (int i : new int[] {-1, 2, 3, 99, 100, LEAST, MOST}) {
            doc.leavesNoTrace("book(" + i + ", 0) of 2", FULL, y -> y.book(i, 0), -1);
        }
        for (int what : new int[] {-1, 5, LEAST, MOST}) {
            doc.leavesNoTrace("book(0, " + what + ")", FULL, y -> y.book(0, what), -1);
        }
        due("an empty book", new HearDifference().book(0, 0), -1);
        x.undo();
        due("after what was told nothing is undone", x.book(1, 0), 1);
        x.speak(0, 1);
        x.undo();
        due("a line undone", x.book(2, 0), -1);
    }

    private static void tune() {
        doc.says(15, "A tone (0 .. 60) comes behind a TUNE (NONE: it is empty then): how many it has");
        HearDifference x = new HearDifference();
        for (int t = 0; t < 4; t++) {
            due("emptied, though empty", x.tune(t, -1), 0);
            due("tune(" + t + ", 0)", x.tune(t, 0), 1);
            due("tune(" + t + ", 60)", x.tune(t, 60), 2);
        }
        due("emptied", x.tune(1, -1), 0);
        due("look(11)", x.look(11), 0);
        due("the others stay", x.look(10) + x.look(12) + x.look(13), 6);
        due("from the first on again", x.tune(1, 5), 1);
        doc.says(15, "NONE if one can't be, or it has twelve.");
        int[][] cannot = {{-1, 0}, {4, 0}, {-1, -1}, {4, -1}, {LEAST, 0}, {MOST, 0}, {2, -2}, {2, 61}, {2, LEAST},
            {2, MOST}, {0, 0}, {0, 60}, {1, 30}, {0, 61}, {0, -2}};
        for (int[] c : cannot) {
            doc.leavesNoTrace("tune" + Arrays.toString(c), FULL, y -> y.tune(c[0], c[1]), -1);
        }
        HearDifference full = Sentences.in(FULL);
        due("a full one emptied", full.tune(0, -1), 0);
        due("and begun again", full.tune(0, 60), 1);
    }

    private static void same() {
        doc.says(16, "SAME;");
        HearDifference x = Sentences.in(FULL);
        due("same(0, 1)", x.same(0, 1), 3);
        due("same(3, 3), empty", x.same(3, 3), 0);
        doc.says(16, "NONE if there is none such.");
        int[][] cannot = {{-1, 0}, {0, -1}, {4, 0}, {0, 4}, {LEAST, 0}, {0, MOST}, {-1, -1}, {4, 4}, {3, 4}, {-1, 3}};
        for (int[] c : cannot) {
            doc.leavesNoTrace("same" + Arrays.toString(c), FULL, y -> y.same(c[0], c[1]), -1);
        }
    }

    private static void pair() {
        doc.says(17, "A PAIR comes to the list (a NONE: it is empty then): how many there are");
        HearDifference x = Sentences.choir(5, -1, 6);
        for (int b : new int[] {-1, 0, 7, LEAST, MOST}) {
            due("pair(0, 1)", x.pair(0, 1), 1);
            due("pair(NONE, " + b + ")", x.pair(-1, b), 0);
            due("look(7)", x.look(7), 0);
            due("emptied, though empty", x.pair(-1, b), 0);
        }
        due("the greater first", x.pair(2, 0), 1);
        due("the same again", x.pair(0, 2), 2);
        doc.says(17, "NONE if one can't be, or there are eight.");
        int[][] cannot = {{0, 0}, {2, 2}, {0, -1}, {0, 3}, {3, 0}, {-2, 0}, {-2, -1}, {LEAST, 0}, {0, MOST}, {0, -2}};
        for (int[] c : cannot) {
            doc.leavesNoTrace("pair" + Arrays.toString(c), THREE, y -> y.pair(c[0], c[1]), -1);
        }
        doc.leavesNoTrace("the ninth", FULL, y -> y.pair(0, 1), -1);
        doc.leavesNoTrace("pair(0, 1) of nobody", y -> { }, y -> y.pair(0, 1), -1);
        HearDifference full = Sentences.in(FULL);
        due("a full list emptied", full.pair(-1, 0), 0);
        due("and begun again", full.pair(8, 9), 1);
    }

    private static void turnOf() {
        doc.says(18, "TURNS what 0 how many, 10 + i that of PAIR i (from 1 on).");
        HearDifference x = Sentences.in(FULL);
        due("the first", x.turnOf(10), 1);
        due("the eighth is there", x.turnOf(17) >= 1, true);
        due("none of a list that is empty", new HearDifference().turnOf(0), 0);
        doc.says(18, "NONE if there is none such, or another what.");
        for (int what : new int[] {-1, 1, 9, 18, LEAST, MOST}) {
            doc.leavesNoTrace("turnOf(" + what + ") of 8", FULL, y -> y.turnOf(what), -1);
        }
        for (int what : new int[] {1, 9, 11, 17}) {
            doc.leavesNoTrace("turnOf(" + what + ") of 1", THREE, y -> y.turnOf(what), -1);
        }
        due("turnOf(10) of none", new HearDifference().turnOf(10), -1);
        x.pair(-1, 0);
        due("emptied", x.turnOf(0), 0);
        due("emptied", x.turnOf(10), -1);
    }

    private static void tell() {
        doc.says(19, "A WORD comes to TOLD (NONE: it is empty then): how many there are");
        HearDifference x = new HearDifference();
        due("emptied, though empty", x.tell(-1), 0);
        due("tell(1)", x.tell(1), 1);
        due("tell(24)", x.tell(24), 2);
        due("tell(24) again", x.tell(24), 3);
        due("emptied", x.tell(-1), 0);
        due("from the first on again", x.tell(7), 1);
        due("the others are gone", x.fewest(11), 7);
        doc.says(19, "NONE if one can't be, or there are fifteen.");
        for (int word : new int[] {0, -2, 25, 60, LEAST, MOST}) {
            doc.leavesNoTrace("tell(" + word + ")", THREE, y -> y.tell(word), -1);
            doc.leavesNoTrace("tell(" + word + ") with fifteen", FULL, y -> y.tell(word), -1);
        }
        doc.leavesNoTrace("the sixteenth", FULL, y -> y.tell(1), -1);
        HearDifference full = Sentences.in(FULL);
        due("a full list emptied", full.tell(-1), 0);
        due("and begun again", full.tell(24), 1);
    }

    private static void fit() {
        doc.says(20, "FIT of n tones what 0 how many rows, 10 + i tone i of the first.");
        HearDifference x = Sentences.in(FULL);
        int[] row = {0, 1, 4, 10, 12, 17};
        due("fit(6, 0)", x.fit(6, 0), 4);
        for (int i = 0; i < 6; i++) {
            due("fit(6, " + (10 + i) + ")", x.fit(6, 10 + i), row[i]);
        }
        due("no row for five", x.fit(5, 0), 0);
        due("no row for one", x.fit(1, 0), 0);
        HearDifference none = new HearDifference();
        due("one tone, no word", none.fit(1, 0), 1);
        due("its tone", none.fit(1, 10), 0);
        doc.says(20, "NONE if one can't be, none (10 + i), or another what.");
        for (int n : new int[] {0, -1, 7, LEAST, MOST}) {
            for (int what : new int[] {0, 10, 16}) {
                doc.leavesNoTrace("fit(" + n + ", " + what + ")", FULL, y -> y.fit(n, what), -1);
            }
        }
        for (int what : new int[] {-1, 1, 9, 16, 17, LEAST, MOST}) {
            doc.leavesNoTrace("fit(6, " + what + ")", FULL, y -> y.fit(6, what), -1);
        }
        for (int what = 10; what < 15; what++) {
            int w = what;
            doc.leavesNoTrace("no row, fit(5, " + what + ")", FULL, y -> y.fit(5, w), -1);
        }
        due("fit(1, 11)", none.fit(1, 11), -1);
        due("fit(2, 10) without a row", none.fit(2, 10), -1);
    }

    private static void fewest() {
        doc.says(21, "FEWEST what 0 how many tones, 10 + i tone i.");
        HearDifference x = new HearDifference();
        Sentences.tell(x, 1, 2, 3, 4, 5, 6, 7, 8, 9);
        due("fewest(0)", x.fewest(0), 5);
        due("fewest(10)", x.fewest(10), 0);
        due("fewest(14)", x.fewest(14) > 0, true);
        boolean[] words = new boolean[25];
        for (int i = 0; i < 5; i++) {
            for (int j = 0; j < i; j++) {
                words[x.fewest(10 + i) - x.fewest(10 + j)] = true;
            }
        }
        for (int word = 1; word <= 9; word++) {
            due("word " + word, words[word], true);
        }
        doc.says(21, "NONE if five are not enough, none such, or another what.");
        for (int what : new int[] {0, 10, 11, 14}) {
            doc.leavesNoTrace("fewest(" + what + ") of fifteen words", FULL, y -> y.fewest(what), -1);
        }
        for (int what : new int[] {-1, 1, 9, 11, 14, 15, LEAST, MOST}) {
            doc.leavesNoTrace("fewest(" + what + ")", THREE, y -> y.fewest(what), -1);
        }
        Sentences.tell(x, 24);
        due("tone 2 of two", x.fewest(12), -1);
        due("fewest(15) of five", x.fewest(15), -1);
    }

    private static void ruler() {
        doc.says(22, "RULER of n marks what 0 its length, 10 + i mark i.");
        HearDifference x = new HearDifference();
        int[][] rows = {{0}, {0, 1}, {0, 1, 3}, {0, 1, 4, 6}, {0, 1, 4, 9, 11}, {0, 1, 4, 10, 12, 17}};
        for (int n = 1; n <= 6; n++) {
            due("ruler(" + n + ", 0)", x.ruler(n, 0), rows[n - 1][n - 1]);
            for (int i = 0; i < n; i++) {
                due("ruler(" + n + ", " + (10 + i) + ")", x.ruler(n, 10 + i), rows[n - 1][i]);
            }
        }
        doc.says(22, "NONE if one can't be, none such, or another what.");
        for (int n : new int[] {0, -1, 7, LEAST, MOST}) {
            for (int what : new int[] {0, 10, 16}) {
                doc.leavesNoTrace("ruler(" + n + ", " + what + ")", THREE, y -> y.ruler(n, what), -1);
            }
        }
        for (int n = 1; n <= 6; n++) {
            int m = n;
            for (int what : new int[] {-1, 1, 9, 10 + n, 20, LEAST, MOST}) {
                doc.leavesNoTrace("ruler(" + n + ", " + what + ")", THREE, y -> y.ruler(m, what), -1);
            }
        }
    }

    private static void alone() {
        doc.says(23, "ALONE of p by a, b with a WORD d (0 .. 60) what 0 how many, 1 the least tone of a (NONE).");
        HearDifference x = Sentences.choir(10, 14, -1);
        due("d 0", x.alone(0, 1, 2, 0, 0), 61);
        due("d 60", x.alone(0, 1, 2, 60, 0), 1);
        due("d 60, the least", x.alone(0, 2, 1, 60, 1), 0);
        Sentences.law(x, "miss;");
        due("none", x.alone(0, 1, 2, 0, 0), 0);
        due("the least of none", x.alone(0, 1, 2, 0, 1), -1);
        doc.says(23, "NONE if one can't be (not three unlike ones");
        int[][] cannot = {{0, 0, 1, 5, 0}, {0, 1, 0, 5, 0}, {0, 1, 1, 5, 0}, {3, 1, 2, 5, 0}, {0, 3, 2, 5, 0},
            {0, 1, 3, 5, 0}, {-1, 1, 2, 5, 0}, {0, -1, 2, 5, 0}, {0, 1, -1, 5, 0}, {LEAST, 1, 2, 5, 0},
            {0, MOST, 2, 5, 0}, {0, 1, LEAST, 5, 0}, {0, 1, 2, -1, 0}, {0, 1, 2, 61, 0}, {0, 1, 2, LEAST, 0},
            {0, 1, 2, MOST, 0}, {0, 1, 2, 61, 1}, {0, 1, 2, -1, 1}};
        for (int[] c : cannot) {
            doc.leavesNoTrace("alone" + Arrays.toString(c), THREE, y -> y.alone(c[0], c[1], c[2], c[3], c[4]), -1);
        }
        doc.says(23, "p without a HUM), or another what.");
        doc.leavesNoTrace("p without a HUM", THREE, y -> y.alone(2, 0, 1, 5, 0), -1);
        doc.leavesNoTrace("p without a HUM", FULL, y -> y.alone(4, 0, 1, 5, 1), -1);
        for (int what : new int[] {-1, 2, 10, LEAST, MOST}) {
            doc.leavesNoTrace("alone what " + what, THREE, y -> y.alone(0, 1, 2, 5, what), -1);
        }
    }

    private static void safe() {
        doc.says(24, "SAFE what 0 how many, 1 the WORDS as a set (WORD d counts 2 to the d).");
        HearDifference x = Sentences.choir(0, 1);
        due("safe(0)", x.safe(0), 1);
        due("2 to the 1", x.safe(1), 2);
        x.set(0, 1, 24);
        due("2 to the 24", x.safe(1), 16777216);
        due("nobody: none", new HearDifference().safe(0), 0);
        due("nobody: the empty set", new HearDifference().safe(1), 0);
        doc.says(24, "NONE for another what.");
        for (int what : new int[] {-1, 2, 10, LEAST, MOST}) {
            doc.leavesNoTrace("safe(" + what + ")", FULL, y -> y.safe(what), -1);
        }
    }

    private static void undo() {
        doc.says(25, "UNDO: true");
        HearDifference x = Sentences.choir(10, 20, 30);
        x.speak(0, 1);
        due("one", x.undo(), true);
        due("the line is gone", x.look(2), 0);
        x.hours(1);
        due("one", x.undo(), true);
        due("the hour is gone", x.look(1), 0);
        for (int i = 0; i < 102; i++) {
            x.speak(0, 1);
        }
        x.undo();
        x.undo();
        due("two without a line", x.look(2), 100);
        x.undo();
        due("one with it", x.look(2), 99);
        doc.says(25, "false if there is nothing.");
        doc.leavesNoTrace("a new one", y -> { }, y -> y.undo() ? 1 : 0, 0);
        doc.leavesNoTrace("all undone", y -> {
            Sentences.full(y);
            for (int i = 0; i < 8; i++) {
                y.undo();
            }
        }, y -> y.undo() ? 1 : 0, 0);
        doc.leavesNoTrace("all forgotten", y -> {
            Sentences.full(y);
            y.state(3);
        }, y -> y.undo() ? 1 : 0, 0);
        doc.leavesNoTrace("after eight of nine", y -> {
            Sentences.three(y);
            y.hours(9);
            for (int i = 0; i < 8; i++) {
                y.undo();
            }
        }, y -> y.undo() ? 1 : 0, 0);
    }

    private static void image() {
        doc.says(26, "THE IMAGE is taken (true), or gone back to (false): true");
        HearDifference x = new HearDifference();
        due("of nobody", x.image(true), true);
        x.person(5);
        due("gone back", x.image(false), true);
        due("nobody", x.look(0), 0);
        due("the number is free again", x.person(7), 0);
        due("HUM", x.of(0, 0), 7);
        due("LOUD", x.of(0, 2), 5);
        due("taken again", x.image(true), true);
        due("gone back", x.image(false), true);
        due("one", x.look(0), 1);
        HearDifference loud = Sentences.choir(5);
        loud.image(true);
        loud.person(6);
        loud.set(1, 1, 1);
        loud.set(2, 1, 9);
        loud.image(false);
        loud.person(-1);
        due("a new one is LOUD 5", loud.of(1, 2), 5);
        due("a new one is silent", loud.of(1, 1), 0);
        doc.says(26, "false if there is none.");
        doc.leavesNoTrace("a new one", y -> { }, y -> y.image(false) ? 1 : 0, 0);
        doc.leavesNoTrace("none taken", THREE, y -> y.image(false) ? 1 : 0, 0);
        due("it forgets nothing then", leftAfterNoImage(), 1);
    }

    private static int leftAfterNoImage() {
        HearDifference x = Sentences.in(THREE);
        x.image(false);
        return x.look(6);
    }

    private static void look() {
        doc.says(27, "What 0 PEOPLE, 1 HOUR, 2 lines of THE BOOK, 3 SLIP, 4 STATE, 5 lines of THE LAW, 6 what can be");
        HearDifference x = Sentences.in(FULL);
        int[] seen = {10, 3, 2, 500, x.look(4), 3, 5, 8, 15, -1, 12, 12, 3, 0, -1};
        for (int what = 0; what < seen.length; what++) {
            due("look(" + what + ")", x.look(what), seen[what]);
        }
        doc.says(27, "NONE for another what.");
        for (int what : new int[] {-1, 9, 14, 15, LEAST, MOST}) {
            doc.leavesNoTrace("look(" + what + ")", FULL, y -> y.look(what), -1);
        }
        doc.says(27, "(STATE as it is.)");
        for (int v : new int[] {-1, LEAST, MOST, 0}) {
            x.state(v);
            due("look(4)", x.look(4), v);
        }
    }
}
