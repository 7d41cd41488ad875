import java.nio.ByteBuffer;
import java.nio.charset.StandardCharsets;
import java.util.Arrays;

/** Each promise by its number: ordinary inputs, the edges that the document names, and wrong inputs. */
public final class PromisesTest {
    private static final int LEAST = Integer.MIN_VALUE;
    private static final int MOST = Integer.MAX_VALUE;
    private static int wrong = 0;

    private static void due(int promise, String call, long got, long want) {
        if (got != want) {
            wrong++;
            System.out.println("promise " + promise + ": " + call + " answered " + got + ", due is " + want);
        }
    }

    private static void due(int promise, String call, boolean got, boolean want) {
        due(promise, call, got ? 1 : 0, want ? 1 : 0);
    }

    public static void main(String[] args) {
        newObject();
        state();
        person();
        set();
        feedAndEnd();
        text();
        faults();
        lawMeaning();
        speak();
        hours();
        ofAndHears();
        deaf();
        book();
        tunes();
        pairs();
        tell();
        fit();
        fewest();
        ruler();
        alone();
        safe();
        undo();
        image();
        look();
        System.out.println(wrong == 0 ? "all promises hold" : wrong + " answers are not as due");
        if (wrong != 0) {
            System.exit(1);
        }
    }

    /** People with told hums, all of them sounding who can. */
    private static HearDifference choir(int... hums) {
        HearDifference x = new HearDifference();
        for (int hum : hums) {
            int number = x.person(hum);
            if (hum >= 0) {
                x.set(1, number, 1);
            }
        }
        return x;
    }

    /** Puts a text on the tape and makes it the law. */
    private static int law(HearDifference x, String text) {
        x.end(0);
        byte[] bytes = Arrays.copyOf(text.getBytes(StandardCharsets.ISO_8859_1), (text.length() + 19) / 20 * 20);
        ByteBuffer b = ByteBuffer.wrap(bytes);
        while (b.remaining() > 0) {
            x.feed(b.getInt(), b.getInt(), b.getInt(), b.getInt(), b.getInt());
        }
        x.end(text.length());
        return x.text();
    }

    private static void newObject() {
        HearDifference x = new HearDifference();
        for (int what = 0; what <= 8; what++) {
            due(1, "look(" + what + ")", x.look(what), 0);
        }
        for (int tune = 0; tune < 4; tune++) {
            due(1, "look(" + (10 + tune) + ")", x.look(10 + tune), 0);
        }
        due(1, "fault(0)", x.fault(0), 0);
        due(1, "fault(1)", x.fault(1), -1);
        due(1, "end(1)", x.end(1), false);
        due(1, "undo()", x.undo(), false);
        due(1, "image(false)", x.image(false), false);
        due(1, "NONE", HearDifference.NONE, -1);
    }

    private static void state() {
        HearDifference x = new HearDifference();
        due(2, "state(7)", x.state(7), 0);
        due(2, "state(least)", x.state(LEAST), 7);
        due(2, "state(most)", x.state(MOST), LEAST);
        due(2, "look(4)", x.look(4), MOST);
        x.hours(1);
        due(2, "look(4) after an hour of nobody", x.look(4), MOST);
        x.state(MOST);
        due(2, "state forgets what can be undone", x.look(6), 0);
    }

    private static void person() {
        HearDifference x = new HearDifference();
        due(3, "person(-2)", x.person(-2), -1);
        due(3, "person(61)", x.person(61), -1);
        due(3, "person(least)", x.person(LEAST), -1);
        due(3, "person(most)", x.person(MOST), -1);
        due(3, "nobody came", x.look(0), 0);
        int[] hums = {0, 60, -1, 1, 2, 3, 4, 5, 6, 7};
        for (int i = 0; i < 10; i++) {
            due(3, "person(" + hums[i] + ")", x.person(hums[i]), i);
        }
        x.hours(1);
        due(3, "the eleventh", x.person(5), -1);
        due(3, "one that can't be forgets nothing", x.look(6), 1);
        for (int i = 0; i < 10; i++) {
            due(3, "hum of " + i, x.of(i, 0), hums[i]);
            due(3, "silent at first", x.of(i, 1), 0);
            due(3, "loud at first", x.of(i, 2), 5);
        }
        HearDifference y = new HearDifference();
        y.hours(1);
        y.person(-1);
        due(3, "one who comes forgets", y.look(6), 0);
    }

    private static void set() {
        HearDifference x = choir(10, -1);
        due(4, "set(0, 0, 61)", x.set(0, 0, 61), false);
        due(4, "set(0, 0, -2)", x.set(0, 0, -2), false);
        due(4, "set(0, 0, 60)", x.set(0, 0, 60), true);
        due(4, "of(0, 0)", x.of(0, 0), 60);
        due(4, "still sounding", x.of(0, 1), 1);
        due(4, "set(0, 0, NONE)", x.set(0, 0, -1), true);
        due(4, "of(0, 0)", x.of(0, 0), -1);
        due(4, "silent then", x.of(0, 1), 0);
        due(4, "set(1, 0, 1) without a hum", x.set(1, 0, 1), false);
        due(4, "set(1, 0, 0) without a hum", x.set(1, 0, 0), true);
        due(4, "set(0, 0, 0)", x.set(0, 0, 0), true);
        due(4, "silent still", x.of(0, 1), 0);
        due(4, "set(1, 0, 1)", x.set(1, 0, 1), true);
        due(4, "set(1, 0, 2)", x.set(1, 0, 2), false);
        due(4, "set(1, 0, -1)", x.set(1, 0, -1), false);
        due(4, "of(0, 1)", x.of(0, 1), 1);
        due(4, "set(1, 0, 0)", x.set(1, 0, 0), true);
        due(4, "of(0, 1)", x.of(0, 1), 0);
        due(4, "set(2, 1, 9)", x.set(2, 1, 9), true);
        due(4, "set(2, 1, 10)", x.set(2, 1, 10), false);
        due(4, "set(2, 1, -1)", x.set(2, 1, -1), false);
        due(4, "of(1, 2)", x.of(1, 2), 9);
        due(4, "set(2, 1, 0)", x.set(2, 1, 0), true);
        due(4, "of(1, 2)", x.of(1, 2), 0);
        due(4, "set(3, most, 1000)", x.set(3, MOST, 1000), true);
        due(4, "set(3, 0, 1001)", x.set(3, 0, 1001), false);
        due(4, "set(3, 0, -1)", x.set(3, 0, -1), false);
        due(4, "look(3)", x.look(3), 1000);
        for (int person : new int[] {-1, 2, LEAST, MOST}) {
            for (int what = 0; what < 3; what++) {
                due(4, "set of no person " + person, x.set(what, person, 1), false);
            }
        }
        x.hours(1);
        due(4, "set(4, 0, 0)", x.set(4, 0, 0), false);
        due(4, "set(-1, 0, 0)", x.set(-1, 0, 0), false);
        due(4, "what was not set forgets nothing", x.look(6), 1);
        x.set(3, 0, 1000);
        due(4, "set forgets", x.look(6), 0);
    }

    private static void feedAndEnd() {
        HearDifference x = new HearDifference();
        for (int i = 1; i <= 20; i++) {
            due(5, "feed", x.feed(0x3b3b3b3b, 0, -1, 0, 0), 20 * i);
        }
        due(5, "feed above 400", x.feed(0, 0, 0, 0, 0), -1);
        due(6, "end(-1)", x.end(-1), false);
        due(6, "end(401)", x.end(401), false);
        due(6, "end(least)", x.end(LEAST), false);
        due(6, "end(400)", x.end(400), true);
        due(6, "end(381)", x.end(381), true);
        due(5, "feed above 400", x.feed(0, 0, 0, 0, 0), -1);
        due(6, "end(380)", x.end(380), true);
        due(6, "end(381) of 380", x.end(381), false);
        due(5, "feed to 400", x.feed(0, 0, 0, 0, 0), 400);
        due(6, "end(0)", x.end(0), true);
        due(6, "end(1) of 0", x.end(1), false);
        // "hear;" in one number and the highest byte of the next: the highest byte comes first
        due(5, "feed", x.feed(0x68656172, 0x3b000000, 0, 0, 0), 20);
        due(6, "end(5)", x.end(5), true);
        due(7, "text()", x.text(), 1);
        due(7, "the tape is empty then", x.end(1), false);
        // bytes of each of the five numbers in their places
        x.feed(0x68656172, 0x3b6d6973, 0x733b6865, 0x61723b6d, 0x6973733b);
        due(5, "text of five numbers", x.text(), 4);
    }

    private static void text() {
        HearDifference x = choir(1, 2, 3);
        x.hours(1);
        due(7, "text() of an empty tape", x.text(), 0);
        due(7, "miss;", law(x, "miss;"), 1);
        due(7, "texts forget nothing", x.look(6), 1);
        due(7, "nobody hears", x.hears(0, 1, 2), 0);
        due(7, "a fault", law(x, "hear"), -1);
        due(7, "the tape is empty then too", x.end(1), false);
        due(7, "the law stays", x.hears(0, 1, 2), 0);
        due(7, "look(5)", x.look(5), 1);
        due(8, "fault(0)", x.fault(0), 1);
        due(8, "fault(1)", x.fault(1), 4);
        due(8, "fault(2)", x.fault(2), -1);
        due(8, "fault(-1)", x.fault(-1), -1);
        due(7, "blanks alone", law(x, " \n \n"), 0);
        due(7, "an empty law: all hear", x.hears(0, 1, 2), 1);
        due(8, "fault(0) of the latest", x.fault(0), 0);
        due(8, "fault(1) of the latest", x.fault(1), -1);
        due(7, "sixteen lines", law(x, "hear;miss;".repeat(8)), 16);
        due(7, "look(5)", x.look(5), 16);
        due(7, "400 bytes", law(x, "hear when 1" + "+1".repeat(193) + "=0;"), 1);
        due(7, "no blanks where none are needed", law(x, "hear when 1=1and 2=2or 3=3;miss when low<1or high>0;"), 2);
    }

    private static void fault(String text, int kind, int place) {
        HearDifference x = new HearDifference();
        int lines = law(x, text);
        String call = "text() of '" + text + "'";
        due(7, call, lines < 0, kind != 0);
        due(8, call + " fault(0)", x.fault(0), kind);
        due(8, call + " fault(1)", x.fault(1), place);
    }

    private static void faults() {
        fault("", 0, -1);
        fault("hear when 9999 = 0000;", 0, -1);
        fault(";", 1, 0);
        fault("when", 1, 0);
        fault("hear  ", 1, 6);
        fault("hear miss;", 1, 5);
        fault("hear;  \n", 0, -1);
        fault("hear; x", 1, 6);
        fault("Hear;", 1, 0);
        fault("hearX;", 1, 0);
        fault("hearA;", 1, 0);
        fault("hearZ;", 1, 0);
        fault("heara;", 1, 0);
        fault("hearz;", 1, 0);
        fault("hear@;", 1, 4);
        fault("hear[;", 1, 4);
        fault("hear`;", 1, 4);
        fault("hear{;", 1, 4);
        fault("hear when 1/2:=1;", 1, 13);
        fault("hea;", 1, 0);
        fault("hear\t;", 1, 4);
        fault("hear\r;", 1, 4);
        fault("hear\u0000;", 1, 4);
        fault("hear\u00e9;", 1, 4);
        fault("hear.", 1, 4);
        fault("hear when ;", 1, 10);
        fault("hear when 1;", 1, 11);
        fault("hear when 1=;", 1, 12);
        fault("hear when 1=1", 1, 13);
        fault("hear when 1=1=1;", 1, 13);
        fault("hear when 1=1<1;", 1, 13);
        fault("hear when 1 and 1=1;", 1, 12);
        fault("hear when (1)=1;", 1, 12);
        fault("hear when 1=(1);", 1, 12);
        fault("hear when 1=1);", 1, 13);
        fault("hear when (1=1;", 1, 14);
        fault("hear when (1=1)=1;", 1, 15);
        fault("hear when (1=1) 1=1;", 1, 16);
        fault("hear when (1=1)+1=1;", 1, 15);
        fault("hear when (1=1)*1;", 1, 15);
        fault("hear when (1=1)/1 and 1=1;", 1, 15);
        fault("hear when (1=1)not 1=1;", 1, 15);
        fault("hear when ();", 1, 11);
        fault("hear when not;", 1, 13);
        fault("hear when 1=1 not 1=1;", 1, 14);
        fault("hear when 1=not 1;", 1, 12);
        fault("hear when 1=1 and;", 1, 17);
        fault("hear when 1=1 or or 1=1;", 1, 17);
        fault("hear when -1=1;", 1, 10);
        fault("hear when 1+=1;", 1, 12);
        fault("hear when 1 1=1;", 1, 12);
        fault("hear when 12345=1;", 1, 10);
        fault("hear when 00001=1;", 1, 10);
        fault("hear when 1/low=1;", 1, 12);
        fault("hear when 1/(2)=1;", 1, 12);
        fault("hear when 1/00000=1;", 1, 12);
        fault("hear when 1/0=1;", 2, 12);
        fault("hear when 1/ 0000=1;", 2, 13);
        fault("hear when 1*2/3/ 0=;", 2, 17);
        fault("hear when 1/0", 2, 12);
        fault("hear when 1*0=0;", 0, -1);
        fault("hear when 0/1=0;", 0, -1);
        fault("hear when 12low<3;", 1, 12);
        fault("hear when low12<3;", 1, 13);
        fault("hear;".repeat(17), 3, 80);
        fault("hear;".repeat(16) + "miss", 3, 80);
        fault("hear;".repeat(16) + ";", 1, 80);
        fault("hear;".repeat(16) + " \n", 0, -1);
        fault("hear when " + "(".repeat(8) + "1=1" + ")".repeat(8) + ";", 0, -1);
        fault("hear when " + "(".repeat(9) + "1=1" + ")".repeat(9) + ";", 3, 18);
        fault("hear when " + "not ".repeat(8) + "1=1;", 0, -1);
        fault("hear when " + "not ".repeat(9) + "1=1;", 3, 42);
        fault("hear when not(not(not(not(1=1))));", 0, -1);
        fault("hear when not(not(not(not(not 1=1))));", 3, 26);
        fault("hear when not(not(not(not((1=1)))));", 3, 26);
        fault("hear when " + "not 1=1 and ".repeat(9) + "not(1=1)or((1=1));", 0, -1);
        fault("hear when " + "(1=1)and ".repeat(9) + "not not not not not not not not 1=1;", 0, -1);
        fault("hear when ((((1=1 and not not not not 1=1))or not not not not not not 1=1));", 0, -1);
        fault("hear when (" + "not ".repeat(7) + "1=1 or " + "not ".repeat(8) + "1=1);", 3, 74);
        fault("hear when (not (1=1)) and (((((((1=1)))))));", 0, -1);
        fault("hear when " + "1=1 or 1=1 and (".repeat(8) + "1=1 or 1=1 and 1+1*1/1=2+1*1" + ")".repeat(8) + ";", 0, -1);
    }

    /** Whether 0, hum 20, hears 1 and 2 (10 and 34; loud 3 and 4), with 3 (hum 50) and 4 (40) sounding, at hour 7. */
    private static void means(String condition, boolean so) {
        HearDifference x = choir(20, 10, 34, 50, 40, -1);
        x.set(2, 1, 3);
        x.set(2, 2, 4);
        x.hours(7);
        due(7, condition, law(x, "hear when " + condition + ";miss;"), 2);
        due(12, condition, x.hears(0, 1, 2), so ? 1 : 0);
        due(12, condition + ", told the other way", x.hears(0, 2, 1), so ? 1 : 0);
    }

    private static void lawMeaning() {
        means("low = 10", true);
        means("high = 34", true);
        means("apart = 24", true);
        means("hum = 20", true);
        means("near = 10", true);
        means("loud = 7", true);
        means("crowd = 2", true);
        means("hour = 7", true);
        means("who = 0", true);
        means("1 < 2", true);
        means("2 < 2", false);
        means("2 > 2", false);
        means("3 > 2", true);
        means("2 + 3 * 4 = 14", true);
        means("10 - 3 - 2 = 5", true);
        means("10 - 3 + 2 = 9", true);
        means("7 / 2 * 2 = 6", true);
        means("7 * 2 / 4 = 3", true);
        means("0 - 7 / 2 = 0 - 3", true);
        means("low - hum * 1 / 3 = 4", true);
        means("hum * 0 - 7 < 0", true);
        means("9999*9999*9999 < 0", 9999 * 9999 * 9999 < 0);
        means("9999*9999*9 < 0", 9999 * 9999 * 9 < 0);
        means("9999*9999*30 / 7 < 0", 9999 * 9999 * 30 / 7 < 0);
        means("1=1 or 1=1 and 1=2", true);
        means("1=2 and 1=1 or 1=1", true);
        means("(1=1 or 1=1) and 1=2", false);
        means("not 1=2 and 1=2", false);
        means("not (1=2 and 1=2)", true);
        means("not 1=1 or 1=1", true);
        means("not not 1=1", true);
        means("not not not 1=1", false);
        means("1=2 or 2=3 or 3=3", true);
        means("1=1 and 2=2 and 3=4", false);
        means("1=2 or 1=1 and (".repeat(8) + "1=2 or 1=1 and 1+1*4/2=2+1*1" + ")".repeat(8), true);
        means("1=2 or 1=1 and (".repeat(8) + "1=2 or 1=1 and 1+1*4/2=2+1*0" + ")".repeat(8), false);
        HearDifference x = choir(20, 10, 34);
        law(x, "miss when apart > 30; hear when apart > 20; miss when apart > 10;");
        due(12, "the second line", x.hears(0, 1, 2), 1);
        due(12, "the third line", x.hears(2, 0, 1), 1);
        due(12, "the third line", x.hears(1, 0, 2), 0);
        x.set(0, 1, 9);
        due(12, "the third line", x.hears(2, 0, 1), 0);
    }

    private static void speak() {
        HearDifference x = choir(10, 14, 20, -1, 30);
        due(9, "speak(1, 0)", x.speak(1, 0), 4 + 16);
        due(9, "speak(0, 0)", x.speak(0, 0), -1);
        due(9, "speak(0, 3)", x.speak(0, 3), -1);
        due(9, "speak(3, 0)", x.speak(3, 0), -1);
        due(9, "speak(0, 5)", x.speak(0, 5), -1);
        due(9, "speak(-1, 0)", x.speak(-1, 0), -1);
        due(9, "speak(least, most)", x.speak(LEAST, MOST), -1);
        due(9, "nothing is done", x.look(2), 1);
        due(9, "nothing is done", x.look(6), 1);
        x.set(1, 0, 0);
        law(x, "miss when who = 4 or crowd > 2; hear;");
        due(9, "speak(0, 1)", x.speak(0, 1), 4);
        due(9, "speak(0, 2)", x.speak(0, 2), 2);
        due(9, "speak(1, 2)", x.speak(1, 2), 1);
    }

    private static void hours() {
        HearDifference x = choir(0, 60, 30, -1);
        x.person(30);
        due(10, "hours(0)", x.hours(0), -1);
        due(10, "hours(101)", x.hours(101), -1);
        due(10, "hours(-1)", x.hours(-1), -1);
        due(10, "hours(least)", x.hours(LEAST), -1);
        due(10, "hours(most)", x.hours(MOST), -1);
        due(10, "look(1)", x.look(1), 0);
        due(10, "hours(100)", x.hours(100), 0);
        due(10, "no draw without a slip", x.look(4), 0);
        x.set(3, 0, 1000);
        int[] hums = {0, 60, 30};
        int state = 0;
        for (int hour = 0; hour < 50; hour++) {
            for (int i = 0; i < 3; i++) {
                state = 1664525 * state + 1013904223;
                state = 1664525 * state + 1013904223;
                hums[i] = Math.max(0, Math.min(60, hums[i] + ((state >>> 8) % 2 == 0 ? -1 : 1)));
            }
            due(10, "hours(1)", x.hours(1), 3);
            due(10, "hum of 0", x.of(0, 0), hums[0]);
            due(10, "hum of 1", x.of(1, 0), hums[1]);
            due(10, "hum of 2", x.of(2, 0), hums[2]);
        }
        due(10, "the silent one", x.of(4, 0), 30);
        due(10, "the one without a hum", x.of(3, 0), -1);
        due(10, "look(4)", x.look(4), state);
        x.set(3, 0, 400);
        int slips = 0;
        for (int hour = 0; hour < 100; hour++) {
            for (int i = 0; i < 3; i++) {
                state = 1664525 * state + 1013904223;
                if ((state >>> 8) % 1000 < 400) {
                    slips++;
                    state = 1664525 * state + 1013904223;
                }
            }
        }
        due(10, "hours(100)", x.hours(100), slips);
        due(10, "look(4)", x.look(4), state);
        lastHour();
    }

    private static void lastHour() {
        HearDifference x = new HearDifference();
        for (int i = 0; i < 99; i++) {
            x.hours(100);
        }
        due(10, "hours(100) to 10000", x.hours(100), -1);
        due(10, "look(1)", x.look(1), 9900);
        due(10, "hours(99) to 9999", x.hours(99), 0);
        due(10, "hours(1) to 10000", x.hours(1), -1);
        due(10, "look(1)", x.look(1), 9999);
        due(10, "look(6)", x.look(6), 8);
        x.undo();
        due(10, "hours(2) to 10000", x.hours(2), -1);
        due(10, "hours(1) to 9999", x.hours(1), 0);
    }

    private static void ofAndHears() {
        HearDifference x = choir(10, 14, 20, 24, -1, 24);
        x.set(1, 0, 0);
        due(11, "of(0, 3)", x.of(0, 3), 6);
        due(11, "of(0, 4)", x.of(0, 4), 4); // 6 10 10 4 4 0
        due(11, "of(1, 3)", x.of(1, 3), 3);
        due(11, "of(1, 4)", x.of(1, 4), 2);
        due(11, "of(4, 3) without a hum", x.of(4, 3), 0);
        due(11, "of(4, 4) without a hum", x.of(4, 4), 0);
        law(x, "miss when apart = 4; miss when apart = 0;");
        due(11, "of(0, 3)", x.of(0, 3), 3);
        due(11, "of(0, 4)", x.of(0, 4), 2);
        for (int person : new int[] {-1, 6, LEAST, MOST}) {
            due(11, "of(" + person + ", 0)", x.of(person, 0), -2);
        }
        for (int what : new int[] {-1, 5, LEAST, MOST}) {
            due(11, "of(0, " + what + ")", x.of(0, what), -2);
        }
        due(12, "hears(0, 1, 2)", x.hears(0, 1, 2), 1);
        due(12, "hears(2, 0, 1)", x.hears(2, 0, 1), 0);
        due(12, "a silent one is heard", x.hears(2, 0, 3), 1);
        due(12, "hears(4, 0, 3) without a hum", x.hears(4, 0, 3), 0);
        int[][] cannot = {{0, 0, 1}, {0, 1, 0}, {0, 1, 1}, {0, 1, 4}, {0, 4, 1}, {6, 0, 1}, {0, 6, 1}, {0, 1, 6},
            {-1, 0, 1}, {0, -1, 1}, {0, 1, -1}, {MOST, 0, 1}, {0, LEAST, MOST}};
        for (int[] c : cannot) {
            due(12, "hears" + Arrays.toString(c), x.hears(c[0], c[1], c[2]), -1);
        }
    }

    private static void deaf() {
        HearDifference x = choir(10, 14, 20, 24, -1);
        due(13, "deaf(0, 1)", x.deaf(0, 1), 2);
        due(13, "deaf(0, 4)", x.deaf(0, 4), 0);
        due(13, "deaf(4, 0)", x.deaf(4, 0), 0);
        law(x, "miss when crowd > 0;");
        due(13, "below 0: the couples that are heard then", x.deaf(0, 1), -1);
        due(13, "he does not sing any more", x.of(1, 1), 1);
        x.set(1, 1, 0);
        due(13, "one who is silent", x.deaf(0, 1), 0);
        due(13, "one who hears is not in the crowd", x.deaf(0, 2), 1);
        due(13, "deaf(0, 0)", x.deaf(0, 0), -1000);
        due(13, "deaf(5, 0)", x.deaf(5, 0), -1000);
        due(13, "deaf(0, 5)", x.deaf(0, 5), -1000);
        due(13, "deaf(-1, 0)", x.deaf(-1, 0), -1000);
        due(13, "deaf(0, least)", x.deaf(0, LEAST), -1000);
    }

    private static void book() {
        HearDifference x = choir(10, 14, 20);
        x.hours(3);
        x.speak(2, 1);
        int[] line = {1, 2, 6, 3, 1};
        for (int what = 0; what < 5; what++) {
            due(14, "book(0, " + what + ")", x.book(0, what), line[what]);
        }
        for (int what : new int[] {-1, 5, LEAST, MOST}) {
            due(14, "book(0, " + what + ")", x.book(0, what), -1);
        }
        for (int i : new int[] {-1, 1, LEAST, MOST}) {
            due(14, "book(" + i + ", 0)", x.book(i, 0), -1);
        }
        for (int i = 1; i < 100; i++) {
            x.speak(0, 1);
        }
        due(14, "book(99, 2)", x.book(99, 2), 4);
        due(14, "speak with a full book", x.speak(0, 2), 2);
        due(14, "no more lines", x.look(2), 100);
        due(14, "book(100, 0)", x.book(100, 0), -1);
        due(14, "book(99, 2)", x.book(99, 2), 4);
        x.undo();
        due(25, "the speaking without a line undone", x.look(2), 100);
        x.undo();
        due(25, "the hundredth line undone", x.look(2), 99);
        x.speak(0, 2);
        due(14, "book(99, 2)", x.book(99, 2), 10);
    }

    private static void sing(HearDifference x, int tune, int... tones) {
        x.tune(tune, -1);
        for (int tone : tones) {
            x.tune(tune, tone);
        }
    }

    private static void tunes() {
        HearDifference x = new HearDifference();
        for (int i = 1; i <= 12; i++) {
            due(15, "tune(0, 60)", x.tune(0, 60), i);
        }
        due(15, "the thirteenth", x.tune(0, 0), -1);
        due(15, "tune(0, 61)", x.tune(0, 61), -1);
        due(15, "tune(0, -2)", x.tune(0, -2), -1);
        due(15, "tune(-1, 0)", x.tune(-1, 0), -1);
        due(15, "tune(4, 0)", x.tune(4, 0), -1);
        due(15, "tune(4, NONE)", x.tune(4, -1), -1);
        due(15, "tune(least, 0)", x.tune(LEAST, 0), -1);
        due(15, "look(10)", x.look(10), 12);
        due(15, "look(11)", x.look(11), 0);
        due(15, "tune(0, NONE)", x.tune(0, -1), 0);
        due(16, "two empty ones", x.same(0, 0), 0);
        sing(x, 0, 5, 9, 7);
        due(16, "one is empty", x.same(0, 1), 0);
        due(16, "one is empty", x.same(1, 0), 0);
        due(16, "itself", x.same(0, 0), 3);
        sing(x, 1, 5, 9, 7);
        due(16, "the same", x.same(0, 1), 3);
        sing(x, 1, 4, 8, 6);
        due(16, "moved", x.same(0, 1), 2);
        sing(x, 1, 60, 56, 58);
        due(16, "turned about", x.same(0, 1), 1);
        due(16, "turned about", x.same(1, 0), 1);
        sing(x, 1, 5, 1, 3);
        due(16, "turned about, moved by nothing", x.same(0, 1), 1);
        sing(x, 1, 7, 9, 5);
        due(16, "backwards is not turned about", x.same(0, 1), 0);
        sing(x, 1, 5, 9);
        due(16, "shorter", x.same(0, 1), 0);
        sing(x, 2, 5);
        sing(x, 3, 6);
        due(16, "single tones", x.same(2, 3), 2);
        sing(x, 3, 5);
        due(16, "single tones", x.same(2, 3), 3);
        sing(x, 2, 5, 5);
        sing(x, 3, 7, 7);
        due(16, "level tunes", x.same(2, 3), 2);
        due(16, "same(4, 0)", x.same(4, 0), -1);
        due(16, "same(0, -1)", x.same(0, -1), -1);
        due(16, "same(most, least)", x.same(MOST, LEAST), -1);
    }

    private static void pairs() {
        HearDifference x = choir(10, 14, 20, 24, 30, 37, -1, -1);
        due(17, "pair(0, 0)", x.pair(0, 0), -1);
        due(17, "pair(0, 8)", x.pair(0, 8), -1);
        due(17, "pair(8, 0)", x.pair(8, 0), -1);
        due(17, "pair(0, -1)", x.pair(0, -1), -1);
        due(17, "pair(-2, 0)", x.pair(-2, 0), -1);
        due(18, "turnOf(0) without one", x.turnOf(0), 0);
        due(18, "turnOf(10) without one", x.turnOf(10), -1);
        due(17, "pair(0, 1)", x.pair(0, 1), 1);
        due(17, "pair(3, 2)", x.pair(3, 2), 2);
        due(18, "the same word", x.turnOf(0), 2);
        due(18, "turnOf(11)", x.turnOf(11), 2);
        due(17, "pair(4, 5)", x.pair(4, 5), 3);
        due(18, "the lesser turn", x.turnOf(12), 1);
        due(17, "pair(6, 7)", x.pair(6, 7), 4);
        due(18, "those without a hum say none", x.turnOf(13), 1);
        due(17, "pair(7, 6)", x.pair(7, 6), 5);
        due(18, "nobody speaks twice", x.turnOf(14), 2);
        due(18, "turnOf(0)", x.turnOf(0), 2);
        due(17, "the same pair once more", x.pair(0, 1), 6);
        due(18, "turnOf(0)", x.turnOf(0), 3);
        due(18, "turnOf(15)", x.turnOf(15), 3);
        for (int what : new int[] {-1, 1, 9, 16, LEAST, MOST}) {
            due(18, "turnOf(" + what + ")", x.turnOf(what), -1);
        }
        due(17, "the seventh", x.pair(0, 2), 7);
        due(17, "the eighth", x.pair(1, 2), 8);
        due(17, "the ninth", x.pair(1, 3), -1);
        due(17, "look(7)", x.look(7), 8);
        due(17, "pair(NONE, most)", x.pair(-1, MOST), 0);
        due(17, "look(7)", x.look(7), 0);
        laterChoices();
        due(17, "two without a hum and the same word", twoSilentPairs(), 1);
    }

    /** A chain of pairs whose ends come first: they can't both have the first turn. */
    private static void laterChoices() {
        HearDifference x = choir(0, 1, 10, 12, 30, 37, 50);
        x.pair(0, 1);
        x.pair(2, 3);
        x.pair(1, 4);
        x.pair(4, 2);
        int[] chain = {1, 2, 2, 1};
        due(18, "two turns are enough", x.turnOf(0), 2);
        for (int i = 0; i < 4; i++) {
            due(18, "turnOf(" + (10 + i) + ")", x.turnOf(10 + i), chain[i]);
        }
        x.pair(-1, 0);
        x.pair(0, 1);
        x.pair(2, 3);
        x.pair(1, 4);
        x.pair(4, 5);
        x.pair(5, 3);
        int[] longer = {1, 1, 2, 1, 2};
        due(18, "two turns are enough", x.turnOf(0), 2);
        for (int i = 0; i < 5; i++) {
            due(18, "turnOf(" + (10 + i) + ")", x.turnOf(10 + i), longer[i]);
        }
        x.set(0, 5, 40);
        due(18, "turns by the hums as they are", x.turnOf(0), 2);
        x.set(0, 5, 32);
        due(18, "2-3 and 4-5 say the same word", x.turnOf(0), 3);
    }

    private static int twoSilentPairs() {
        HearDifference x = choir(10, -1, 20, -1);
        x.pair(0, 1);
        x.pair(2, 3);
        return x.turnOf(0);
    }

    private static void tellAll(HearDifference x, int... words) {
        x.tell(-1);
        for (int word : words) {
            x.tell(word);
        }
    }

    private static void tell() {
        HearDifference x = new HearDifference();
        for (int word : new int[] {0, 25, -2, LEAST, MOST}) {
            due(19, "tell(" + word + ")", x.tell(word), -1);
        }
        for (int i = 1; i <= 15; i++) {
            due(19, "tell(24)", x.tell(24), i);
        }
        due(19, "the sixteenth", x.tell(1), -1);
        due(19, "look(8)", x.look(8), 15);
        due(19, "tell(NONE)", x.tell(-1), 0);
        due(19, "look(8)", x.look(8), 0);
    }

    private static void fit() {
        HearDifference x = new HearDifference();
        due(20, "fit(1, 0)", x.fit(1, 0), 1);
        due(20, "fit(1, 11)", x.fit(1, 11), -1);
        x.tell(24);
        due(20, "fit(1, 0)", x.fit(1, 0), 0);
        due(20, "fit(2, 0)", x.fit(2, 0), 1);
        due(20, "fit(2, 11)", x.fit(2, 11), 24);
        tellAll(x, 24, 12, 12);
        due(20, "each as often", x.fit(3, 0), 1);
        due(20, "fit(3, 11)", x.fit(3, 11), 12);
        tellAll(x, 12, 24, 24);
        due(20, "each as often", x.fit(3, 0), 0);
        due(20, "fit(3, 10) of none", x.fit(3, 10), -1);
        int[] row = {0, 1, 4, 10, 12, 17};
        tellAll(x, 1, 4, 10, 12, 17, 3, 9, 11, 16, 6, 8, 13, 2, 7, 5);
        due(20, "0 1 4 10 12 17, 0 1 8 11 13 17 and their mirrors", x.fit(6, 0), 4);
        for (int i = 0; i < 6; i++) {
            due(20, "fit(6, " + (10 + i) + ")", x.fit(6, 10 + i), row[i]);
        }
        for (int what : new int[] {-1, 1, 9, 16, LEAST, MOST}) {
            due(20, "fit(6, " + what + ")", x.fit(6, what), -1);
        }
        for (int n : new int[] {-1, 0, 7, LEAST, MOST}) {
            due(20, "fit(" + n + ", 0)", x.fit(n, 0), -1);
        }
        tellAll(x, 1, 1, 1, 1, 1, 2, 2, 2, 2, 3, 3, 3, 4, 4, 5);
        due(20, "its own mirror", x.fit(6, 0), 1);
    }

    private static void fewest() {
        HearDifference x = new HearDifference();
        due(21, "none told", x.fewest(0), 1);
        due(21, "none told", x.fewest(10), 0);
        due(21, "none told", x.fewest(11), -1);
        tellAll(x, 24, 24, 24);
        due(21, "fewest(0)", x.fewest(0), 2);
        due(21, "fewest(11)", x.fewest(11), 24);
        due(21, "fewest(12)", x.fewest(12), -1);
        tellAll(x, 1, 2, 3, 4, 5, 6);
        due(21, "fewest(0)", x.fewest(0), 4);
        int[] row = {0, 1, 4, 6};
        for (int i = 0; i < 4; i++) {
            due(21, "fewest(" + (10 + i) + ")", x.fewest(10 + i), row[i]);
        }
        tellAll(x, 1, 2, 3, 4, 5, 6, 7, 8, 9);
        due(21, "nine words by five tones", x.fewest(0), 5);
        x.tell(10);
        due(21, "ten words", x.fewest(0), -1);
        due(21, "ten words", x.fewest(10), -1);
        tellAll(x, 1, 24);
        due(21, "fewest(11)", x.fewest(11), 1);
        due(21, "fewest(12)", x.fewest(12), 24);
        for (int what : new int[] {-1, 1, 9, 15, LEAST, MOST}) {
            due(21, "fewest(" + what + ")", x.fewest(what), -1);
        }
    }

    private static void ruler() {
        HearDifference x = new HearDifference();
        int[][] rows = {{0}, {0, 1}, {0, 1, 3}, {0, 1, 4, 6}, {0, 1, 4, 9, 11}, {0, 1, 4, 10, 12, 17}};
        for (int n = 1; n <= 6; n++) {
            due(22, "ruler(" + n + ", 0)", x.ruler(n, 0), rows[n - 1][n - 1]);
            for (int i = 0; i < n; i++) {
                due(22, "ruler(" + n + ", " + (10 + i) + ")", x.ruler(n, 10 + i), rows[n - 1][i]);
            }
            for (int what : new int[] {-1, 1, 9, 10 + n, LEAST, MOST}) {
                due(22, "ruler(" + n + ", " + what + ")", x.ruler(n, what), -1);
            }
        }
        for (int n : new int[] {-1, 0, 7, LEAST, MOST}) {
            due(22, "ruler(" + n + ", 0)", x.ruler(n, 0), -1);
        }
    }

    private static void alone() {
        HearDifference x = choir(10, -1, -1, 40);
        due(23, "all hear it", x.alone(0, 1, 2, 5, 0), 0);
        due(23, "all hear it", x.alone(0, 1, 2, 5, 1), -1);
        law(x, "hear when near < 3; miss;");
        due(23, "a, b without hums", x.alone(0, 1, 2, 5, 0), 10); // 3 .. 7 and 8 .. 12
        due(23, "the least", x.alone(0, 1, 2, 5, 1), 3);
        due(23, "one hears both ends", x.alone(0, 1, 2, 30, 0), 0);
        due(23, "30 apart, less two", x.alone(0, 1, 2, 28, 0), 2); // 8, 9; 10 .. 12 reach 38 .. 40
        due(23, "the least of it", x.alone(0, 1, 2, 28, 1), 8);
        due(23, "a word of 0", x.alone(0, 1, 2, 0, 0), 5);
        due(23, "a word of 60", x.alone(0, 1, 2, 60, 0), 0);
        due(23, "his own hum does not count for a", x.alone(3, 0, 1, 30, 0), 5);
        due(23, "nothing of it stays", x.of(1, 0), -1);
        due(23, "p without a hum", x.alone(1, 0, 3, 5, 0), -1);
        int[][] cannot = {{0, 0, 1, 5, 0}, {0, 1, 0, 5, 0}, {0, 1, 1, 5, 0}, {4, 1, 2, 5, 0}, {0, 4, 2, 5, 0},
            {0, 1, 4, 5, 0}, {-1, 1, 2, 5, 0}, {0, -1, 2, 5, 0}, {0, 1, LEAST, 5, 0}, {0, 1, 2, -1, 0},
            {0, 1, 2, 61, 0}, {0, 1, 2, MOST, 0}, {0, 1, 2, LEAST, 0}, {0, 1, 2, 5, -1}, {0, 1, 2, 5, 2},
            {0, 1, 2, 5, MOST}};
        for (int[] c : cannot) {
            due(23, "alone" + Arrays.toString(c), x.alone(c[0], c[1], c[2], c[3], c[4]), -1);
        }
        law(x, "hear when low = hum; miss;");
        due(23, "a has the lesser tone", x.alone(0, 3, 2, 7, 1), 10);
        due(23, "a has the lesser tone", x.alone(0, 2, 3, 7, 0), 1);
    }

    private static void safe() {
        HearDifference x = choir(0, 0, 24, -1);
        due(24, "0 is no word of it, 24 is", x.safe(0), 1);
        due(24, "as a set", x.safe(1), 1 << 24);
        x.set(0, 2, 25);
        due(24, "25 is none", x.safe(0), 0);
        due(24, "as a set", x.safe(1), 0);
        HearDifference y = choir(0, 1, 3, 7); // 1 3 7 2 6 4
        due(24, "1, 4, 7", y.safe(0), 3);
        due(24, "1, 4, 7", y.safe(1), 2 + 16 + 128);
        y.set(1, 0, 0);
        due(24, "silent ones can say it too", y.safe(0), 3);
        for (int what : new int[] {-1, 2, LEAST, MOST}) {
            due(24, "safe(" + what + ")", y.safe(what), -1);
        }
    }

    private static void undo() {
        HearDifference x = choir(30, 40, 50);
        x.set(3, 0, 1000);
        for (int i = 0; i < 5; i++) {
            x.hours(2);
            x.speak(0, 1);
        }
        due(25, "eight are kept", x.look(6), 8);
        int[] lines = {4, 4, 4, 3, 3, 3, 2, 2};
        int[] hoursThen = {10, 9, 8, 8, 7, 6, 6, 5};
        for (int i = 0; i < 8; i++) {
            due(25, "undo()", x.undo(), true);
            due(25, "lines", x.look(2), lines[i]);
            due(25, "hour", x.look(1), hoursThen[i]);
        }
        due(25, "no more", x.undo(), false);
        HearDifference y = choir(30, 40, 50);
        y.set(3, 0, 1000);
        y.hours(5);
        for (int i = 0; i < 3; i++) {
            due(25, "hums go back", x.of(i, 0), y.of(i, 0));
        }
        due(25, "STATE goes back", x.look(4), y.look(4));
        y.tune(0, 5);
        y.pair(0, 1);
        y.tell(4);
        law(y, "miss;");
        y.image(true);
        y.book(0, 0);
        due(25, "these forget nothing", y.look(6), 5);
        due(25, "undo()", y.undo(), true);
        due(25, "tunes stay", y.look(10), 1);
        due(25, "pairs stay", y.look(7), 1);
        due(25, "words told stay", y.look(8), 1);
        due(25, "the law stays", y.look(5), 1);
        y.set(2, 0, 5);
        due(25, "set forgets", y.undo(), false);
    }

    private static void image() {
        HearDifference x = choir(30, 40, 50);
        x.set(3, 0, 700);
        x.set(2, 1, 8);
        law(x, "miss when who = 2;");
        x.tune(2, 17);
        x.pair(0, 2);
        x.tell(6);
        x.speak(0, 1);
        x.hours(3);
        int stateThen = x.look(4);
        int humThen = x.of(0, 0);
        due(26, "image(true)", x.image(true), true);
        due(26, "the taking forgets nothing", x.look(6), 4);
        for (int round = 0; round < 2; round++) {
            x.hours(50);
            x.speak(1, 2);
            x.person(7);
            x.set(0, 1, -1);
            x.set(2, 1, 0);
            x.set(3, 0, 0);
            x.tune(2, -1);
            x.tune(2, 18);
            x.tune(2, 19);
            x.pair(-1, 0);
            x.tell(-1);
            law(x, "hear when ");
            law(x, "hear;miss;");
            law(x, "hear when ");
            x.feed(1, 2, 3, 4, 5);
            x.hours(1);
            due(26, "image(false)", x.image(false), true);
            due(26, "people", x.look(0), 3);
            due(26, "hour", x.look(1), 3);
            due(26, "lines", x.look(2), 1);
            due(26, "slip", x.look(3), 700);
            due(26, "state", x.look(4), stateThen);
            due(26, "law", x.look(5), 1);
            due(26, "undone", x.look(6), 0);
            due(26, "pairs", x.look(7), 1);
            due(26, "told", x.look(8), 1);
            due(26, "tune", x.look(12), 1);
            due(26, "undo()", x.undo(), false);
            due(26, "hum", x.of(0, 0), humThen);
            due(26, "sounding", x.of(1, 1), 1);
            due(26, "loud", x.of(1, 2), 8);
            due(26, "the law's meaning", x.hears(2, 0, 1), 0);
            due(26, "the law's meaning", x.hears(1, 0, 2), 1);
            due(26, "the book", x.book(0, 2), 10);
            due(26, "the tape stays", x.end(20), true);
            due(26, "fault() stays", x.fault(1), 10);
            x.end(0);
        }
        x.hours(1);
        x.image(true);
        x.hours(1);
        x.image(false);
        due(26, "the later image", x.look(1), 4);
        contentsOfImage();
    }

    /** What has the same length before and after must come back too. */
    private static void contentsOfImage() {
        HearDifference x = choir(30, 40, 50, 60);
        x.speak(0, 1);
        x.speak(0, 2);
        x.pair(0, 1);
        x.pair(1, 2);
        x.tell(7);
        x.tune(0, 20);
        x.image(true);
        x.undo();
        x.undo();
        x.speak(2, 3);
        x.speak(1, 3);
        x.pair(-1, 0);
        x.pair(0, 1);
        x.pair(0, 3);
        x.tell(-1);
        x.tell(8);
        x.tune(0, -1);
        x.tune(0, 21);
        x.set(0, 0, 5);
        due(26, "turnOf(0)", x.turnOf(0), 2);
        x.pair(-1, 0);
        x.pair(0, 2);
        x.pair(1, 3);
        due(26, "turnOf(0)", x.turnOf(0), 1);
        x.image(false);
        due(26, "the pairs are those of then", x.turnOf(0), 2);
        due(26, "book(0, 1)", x.book(0, 1), 1);
        due(26, "book(1, 1)", x.book(1, 1), 2);
        due(26, "book(1, 2)", x.book(1, 2), 20);
        due(26, "fit(2, 11)", x.fit(2, 11), 7);
        x.tune(1, 20);
        due(26, "same(0, 1)", x.same(0, 1), 3);
    }

    private static void look() {
        HearDifference x = choir(30, 40);
        x.hours(2);
        x.speak(0, 1);
        x.tune(0, 1);
        x.tune(3, 1);
        x.tune(3, 1);
        x.pair(0, 1);
        x.tell(3);
        x.tell(3);
        law(x, "hear;hear;hear;");
        int[] due = {2, 2, 1, 0, 0, 3, 3, 1, 2, -1, 1, 0, 0, 2, -1};
        for (int what = 0; what < due.length; what++) {
            due(27, "look(" + what + ")", x.look(what), due[what]);
        }
        for (int what : new int[] {-1, LEAST, MOST}) {
            due(27, "look(" + what + ")", x.look(what), -1);
        }
    }
}
