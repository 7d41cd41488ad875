import java.util.Arrays;
import java.util.List;
import java.util.function.Consumer;
import java.util.function.IntPredicate;

/** Each sentence of the document's terms: what is just there and just not, too small, too large, empty, full. */
public final class TermsEdgesTest {
    private static final int LEAST = Sentences.LEAST;
    private static final int MOST = Sentences.MOST;
    private static Sentences doc;

    public static void main(String[] args) throws Exception {
        doc = new Sentences(args[1]);
        lastCall();
        quotients();
        draws();
        people();
        numbersToldOnce();
        lists();
        grammar();
        tokens();
        arithmetic();
        faults();
        whoHears();
        termsOfTheLaw();
        speaking();
        anHour();
        thought();
        all();
        rulers();
        fitting();
        fewest();
        alone();
        turns();
        same();
        safe();
        undo();
        image();
        says("The constants: `NONE = -1`: None.");
        due("NONE", HearDifference.NONE, -1);
        doc.finish(Sentences.TERMS, Sentences.TERMS);
    }

    private static void says(String words) {
        doc.says(Sentences.TERMS, words);
    }

    private static void due(String call, long got, long want) {
        doc.due(call, got, want);
    }

    private static void due(String call, boolean got, boolean want) {
        doc.due(call, got, want);
    }

    private static HearDifference choir(int... hums) {
        return Sentences.choir(hums);
    }

    private static int law(HearDifference x, String text) {
        return Sentences.law(x, text);
    }

    private static int next(int state) {
        return 1664525 * state + 1013904223;
    }

    /** What a DRAW of m is when STATE has become this. */
    private static int drawn(int state, int m) {
        return (int) ((state & 0xffffffffL) / 256 % m);
    }

    /** A STATE whose next one is so. */
    private static int stateBefore(IntPredicate wanted) {
        for (int state = 0; state < 100_000_000; state++) {
            if (wanted.test(next(state))) {
                return state;
            }
        }
        throw new IllegalStateException("no such STATE");
    }

    /** One who sounds at a hum, at a STATE and a SLIP. */
    private static HearDifference singer(int hum, int state, int slip) {
        HearDifference x = choir(hum);
        x.state(state);
        x.set(3, 0, slip);
        return x;
    }

    private static void lastCall() {
        doc.says(Sentences.WHAT_IT_IS, "An object is used for at most 512 calls after it has been made");
        HearDifference x = new HearDifference();
        for (int i = 0; i < 10; i++) {
            x.person(6 * i);
        }
        for (int call = 11; call < 512; call++) {
            x.speak(call % 10, (call + 1) % 10);
        }
        due("the 512th call", x.speak(0, 9), 510);
    }

    /** The one quotient that there is is the law's, which has a rule of its own below 0. */
    private static void quotients() {
        says("Quotients go downwards.");
        HearDifference x = choir(5, 1, 2);
        law(x, "hear when low/2=0; miss;");
        due("1 / 2", x.hears(0, 1, 2), 1);
    }

    private static void draws() {
        says("STATE of draws (an int, 0 at first)");
        HearDifference x = new HearDifference();
        due("look(4)", x.look(4), 0);
        for (int v : new int[] {LEAST, MOST, -1, 0}) {
            x.state(v);
            due("look(4)", x.look(4), v);
        }
        says("it becomes 1664525 times itself + 1013904223 (ints, which wrap)");
        for (int v : new int[] {0, 1, -1, LEAST, MOST, 0x7fffff00, 1 << 30}) {
            HearDifference y = singer(30, v, 1);
            y.hours(1);
            int once = next(v);
            due("look(4) from " + v, y.look(4), drawn(once, 1000) < 1 ? next(once) : once);
        }
        says("then it is its highest 24 bits (without sign) modulo m");
        int signed = stateBefore(s -> s < 0 && drawn(s, 1000) == 999 && (s >> 8) % 1000 < 0);
        due("a draw of 999 with the highest bit", singer(30, signed, 999).hours(1), 0);
        due("a draw of 999 with the highest bit", singer(30, signed, 1000).hours(1), 1);
        int low = stateBefore(s -> drawn(s, 1000) == 0 && (s & 255) != 0 && (s & 0xffffff) % 1000 > 500);
        due("the highest bits, not the lowest", singer(30, low, 1).hours(1), 1);
    }

    private static void people() {
        says("PEOPLE 0 .. 9 as they come");
        HearDifference x = new HearDifference();
        for (int i = 0; i < 10; i++) {
            due("person", x.person(i), i);
        }
        due("the eleventh", x.person(10), -1);
        due("look(0)", x.look(0), 10);
        says("a HUM (a tone 0 .. 60) or none");
        HearDifference y = new HearDifference();
        int[] hums = {-3, -2, -1, 0, 60, 61, LEAST, MOST};
        int[] answers = {-1, -1, 0, 1, 2, -1, -1, -1};
        for (int i = 0; i < hums.length; i++) {
            due("person(" + hums[i] + ")", y.person(hums[i]), answers[i]);
        }
        due("of(0, 0)", y.of(0, 0), -1);
        due("of(1, 0)", y.of(1, 0), 0);
        due("of(2, 0)", y.of(2, 0), 60);
        says("SOUNDING or not (not at first");
        for (int i = 0; i < 3; i++) {
            due("of(" + i + ", 1)", y.of(i, 1), 0);
        }
        says("one without a HUM never is");
        due("set(1, 0, 1)", y.set(1, 0, 1), false);
        due("of(0, 1)", y.of(0, 1), 0);
        y.set(1, 1, 1);
        y.set(0, 1, -1);
        due("the hum taken away", y.of(1, 1), 0);
        due("set(1, 1, 1)", y.set(1, 1, 1), false);
        y.set(0, 1, 5);
        due("a hum again: silent still", y.of(1, 1), 0);
        due("he can sound now", y.set(1, 1, 1), true);
    }

    private static void numbersToldOnce() {
        HearDifference x = choir(0, 60, 60, -1);
        says("LOUD 0 .. 9 of each (5 at first)");
        due("of(0, 2)", x.of(0, 2), 5);
        due("of(3, 2) without a hum", x.of(3, 2), 5);
        due("set(2, 0, -1)", x.set(2, 0, -1), false);
        due("set(2, 0, 10)", x.set(2, 0, 10), false);
        due("set(2, 0, 0)", x.set(2, 0, 0), true);
        due("set(2, 1, 9)", x.set(2, 1, 9), true);
        due("of(0, 2)", x.of(0, 2), 0);
        due("of(1, 2)", x.of(1, 2), 9);
        due("of another", x.of(2, 2), 5);
        says("SLIP 0 .. 1000 (0 at first)");
        due("look(3)", x.look(3), 0);
        due("set(3, 0, -1)", x.set(3, 0, -1), false);
        due("set(3, 0, 1001)", x.set(3, 0, 1001), false);
        due("set(3, 0, 1000)", x.set(3, 0, 1000), true);
        due("look(3)", x.look(3), 1000);
        due("set(3, 0, 0)", x.set(3, 0, 0), true);
        due("look(3)", x.look(3), 0);
        says("HOUR 0 .. 9999 (0 at first)");
        due("look(1)", x.look(1), 0);
        due("speak at hour 0", x.speak(0, 1), 4);
        due("book(0, 3)", x.book(0, 3), 0);
        for (int i = 0; i < 99; i++) {
            x.hours(100);
        }
        x.hours(99);
        due("look(1)", x.look(1), 9999);
        due("hours(1)", x.hours(1), -1);
        due("look(1)", x.look(1), 9999);
        x.speak(0, 1);
        due("book(1, 3)", x.book(1, 3), 9999);
        says("A WORD is how far two tones are apart: 0 .. 60");
        due("book(0, 2)", x.book(0, 2), 60);
        x.speak(1, 2);
        due("book(2, 2)", x.book(2, 2), 0);
    }

    private static void lists() {
        HearDifference x = choir(0, 1, -1);
        says("TUNES 0 .. 3: rows of tones, 12 each at most (empty at first)");
        for (int t = 0; t < 4; t++) {
            due("look", x.look(10 + t), 0);
            for (int i = 1; i <= 12; i++) {
                due("tune", x.tune(t, 60 * (i % 2)), i);
            }
            due("the thirteenth", x.tune(t, 0), -1);
            due("look", x.look(10 + t), 12);
        }
        due("tune(-1, 0)", x.tune(-1, 0), -1);
        due("tune(4, 0)", x.tune(4, 0), -1);
        says("PAIRS: a list of couples of unlike PEOPLE, 8 at most (empty at first)");
        due("look(7)", x.look(7), 0);
        due("pair(1, 1)", x.pair(1, 1), -1);
        for (int i = 1; i <= 8; i++) {
            due("pair, those without a hum too", x.pair(i % 3, (i + 1) % 3), i);
        }
        due("the ninth", x.pair(0, 1), -1);
        due("look(7)", x.look(7), 8);
        says("TOLD: a list of WORDS 1 .. 24, 15 at most (empty at first");
        due("look(8)", x.look(8), 0);
        due("tell(0)", x.tell(0), -1);
        due("tell(25)", x.tell(25), -1);
        due("tell(1)", x.tell(1), 1);
        due("tell(24)", x.tell(24), 2);
        says("one may be there more than once");
        for (int i = 3; i <= 15; i++) {
            due("tell(24)", x.tell(24), i);
        }
        due("the sixteenth", x.tell(24), -1);
        due("look(8)", x.look(8), 15);
    }

    /** A law's fault, and none where the kind is 0. */
    private static void fault(String text, int kind, int place) {
        HearDifference x = new HearDifference();
        int lines = law(x, text);
        String call = "text() of '" + text + "'";
        due(call, lines == -1, kind != 0);
        due(call + ", fault(0)", x.fault(0), kind);
        due(call + ", fault(1)", x.fault(1), place);
    }

    private static void good(String text) {
        fault(text, 0, -1);
    }

    private static void grammar() {
        says("THE LAW is a TEXT (empty at first)");
        HearDifference x = choir(5, 6, 7);
        due("look(5)", x.look(5), 0);
        due("hears(0, 1, 2)", x.hears(0, 1, 2), 1);
        says("{(hear | miss) [when B] ;}");
        due("no line", law(x, ""), 0);
        due("one line", law(x, "miss;"), 1);
        due("sixteen lines", law(x, "hear;miss when 1=1;".repeat(8)), 16);
        fault("hear", 1, 4);
        fault("hear;;", 1, 5);
        fault("hear when;", 1, 9);
        fault("hear 1=1;", 1, 5);
        fault("hear when 1=1 when 1=1;", 1, 14);
        fault("1=1;", 1, 0);
        fault("or", 1, 0);
        says("B = A {or A}.");
        good("hear when 1=1;");
        good("hear when 1=1 or 1=1 or 1=1;");
        fault("hear when or 1=1;", 1, 10);
        fault("hear when 1=1 or;", 1, 16);
        means("1=2 or 1=2 or 1=1", true);
        means("1=2 or 2=1", false);
        says("A = C {and C}.");
        means("1=1 and 2=2 and 3=4", false);
        means("1=1 or 1=1 and 1=2", true);
        means("1=2 and 1=1 or 1=1", true);
        means("(1=1 or 1=1) and 1=2", false);
        good("hear when 1=1 and 1=1 and 1=1;");
        fault("hear when and 1=1;", 1, 10);
        fault("hear when 1=1 and", 1, 17);
        fault("hear when 1=1 and or 1=1;", 1, 18);
        says("C = E (< | = | >) E | not C | ( B ).");
        good("hear when 1<1 or 1=1 or 1>1 or not 1=1 or (1=1 or 1=1);");
        fault("hear when 1;", 1, 11);
        fault("hear when 1<=1;", 1, 12);
        fault("hear when 1=1>1;", 1, 13);
        fault("hear when not;", 1, 13);
        fault("hear when not 1;", 1, 15);
        fault("hear when ();", 1, 11);
        fault("hear when (1);", 1, 12);
        fault("hear when (1=1;", 1, 14);
        fault("hear when (1=1", 1, 14);
        fault("hear when 1=1);", 1, 13);
        fault("hear when (1=1)<1;", 1, 15);
        fault("hear when (1=1)+1=1;", 1, 15);
        fault("hear when (1=1)*1;", 1, 15);
        fault("hear when (1=1)/1;", 1, 15);
        fault("hear when (1=1)not 1=1;", 1, 15);
        means("1<1 or 1>1 or not 1=1", false);
        means("0<1 and 1>0 and not 1<1", true);
        means("not not 1=1 and not not not 1=2", true);
        means("not 1=2 and 1=2", false);
        means("not (1=2 and 1=2)", true);
        means("not 1=1 or 1=1", true);
        says("E = T {(+ | -) T}.");
        means("9-3-2=4 and 9-3+2=8", true);
        good("hear when 1+1-1=1-1+1;");
        fault("hear when +1=1;", 1, 10);
        fault("hear when 1--1=1;", 1, 12);
        fault("hear when 1=1-;", 1, 14);
        fault("hear when 1+(1)=2;", 1, 12);
        says("T = U {* U | / NUMBER}.");
        means("2+3*4=14 and 9-4/2=7 and 7/2*2=6 and 7*2/4=3", true);
        good("hear when 1*low/2*high/3=1;");
        fault("hear when *1=1;", 1, 10);
        fault("hear when 1*=1;", 1, 12);
        fault("hear when 1/low=1;", 1, 12);
        fault("hear when 1/=1;", 1, 12);
        fault("hear when 1/-1=1;", 1, 12);
        says("U = NUMBER | low | high | apart | hum | near | loud | crowd | hour | who.");
        good("hear when 0+low+high+apart+hum+near+loud+crowd+hour+who>who+hour+crowd+loud+near+hum+apart+high+low+9;");
        for (String none : new String[] {"hear", "miss", "when", "or", "and", "not"}) {
            fault("hear when 1=" + none + ";", 1, 12);
        }
    }

    private static void tokens() {
        says("letters as many as stand together are KEYWORDS (those told here) or none");
        fault("hearmiss;", 1, 0);
        fault("hea r;", 1, 0);
        fault("hear whenlow=1;", 1, 5);
        fault("hear when lowhigh=1;", 1, 10);
        fault("hear when lo=1;", 1, 10);
        fault("hear when loww=1;", 1, 10);
        fault("hear when 1=1 an 1=1;", 1, 14);
        fault("HEAR;", 1, 0);
        for (char letter : new char[] {'a', 'z', 'A', 'Z'}) {
            fault("hear" + letter + ";", 1, 0);
            fault(letter + "hear;", 1, 0);
        }
        fault("hear@;", 1, 4);
        fault("hear[;", 1, 4);
        fault("hear`;", 1, 4);
        fault("hear{;", 1, 4);
        fault("hear_;", 1, 4);
        fault("hear" + (char) 233 + ";", 1, 4);
        good("hear when low=1and(high=2)or not(hum=3);");
        says("digits as many as stand together NUMBERS of 1 to 4 digits or none");
        good("hear when 0=9;");
        good("hear when 0000=9999;");
        fault("hear when 00000=1;", 1, 10);
        fault("hear when 1=12345;", 1, 12);
        fault("hear when 1=1234567890123456789012345678901234567890;", 1, 12);
        fault("hear when 1=12 34;", 1, 15);
        fault("hear when 1=12low;", 1, 14);
        says("; + - * / ( ) < = > .");
        for (int sign = 0; sign < 256; sign++) {
            if (";*/+-<=>() \n".indexOf(sign) < 0 && !(sign >= '0' && sign <= '9')) {
                fault("hear" + (Character.isLetter(sign) && sign < 128 ? " " : "") + (char) sign + ";", 1,
                    Character.isLetter(sign) && sign < 128 ? 5 : 4);
            }
        }
        says("Blanks (32, 10) between.");
        good(" \n hear \n when \n( 1 \n= 1 \n) \n; \n ");
        for (int sign : new int[] {0, 9, 11, 12, 13, 31, 33, 95, 127, 133, 160, 255}) {
            fault("hear " + (char) sign + ";", 1, 5);
        }
        fault("hear when 1 2=12;", 1, 12);
        fault("he ar;", 1, 0);
    }

    /** Whether 0 at hum 20 hears 1 and 2 at 10 and 34 by a condition. */
    private static void means(String condition, boolean so) {
        HearDifference x = choir(20, 10, 34);
        due(condition + " is a law", law(x, "hear when " + condition + ";miss;"), 2);
        due(condition, x.hears(0, 1, 2), so ? 1 : 0);
    }

    private static void arithmetic() {
        says("Ints, which wrap");
        means("8192*8192*32<0", true);
        means("8192*8192*32-1>0", true);
        means("8192*8192*31+8191*8192+8191*8192+8192+8191<0", true);
        means("8192*8192*64=0", true);
        means("9999*9999*9999<0", 9999 * 9999 * 9999 < 0);
        means("9999*9999*9999*9999/9999<0", 9999 * 9999 * 9999 * 9999 / 9999 < 0);
        means("0-8192*8192*32=8192*8192*32", true);
        says("/ goes towards 0");
        means("8192*8192*32/3*3=8192*8192*32+2", true);
        means("8192*8192*32/9999*9999<8192*8192*32", false);
        means("7/1=7", true);
        means("7/2=3", true);
        means("7/8=0", true);
        means("7/7=1", true);
        means("0/9999=0", true);
    }

    private static void faults() {
        says("FAULTS, the first by its place");
        fault("hear when 1/0=1; x", 2, 12);
        fault("hear x when 1/0=1;", 1, 5);
        fault("hear when 1/0=1/0;", 2, 12);
        fault("hear when " + "(".repeat(9) + "1/0", 3, 18);
        fault("hear when 1/0=1 and " + "(".repeat(9), 2, 12);
        fault("hear;".repeat(16) + "hear when 1/0", 3, 80);
        fault("hear;".repeat(15) + "hear when 1/0=1;hear;", 2, 87);
        HearDifference x = choir(20, 10, 34);
        due("a FAULT with eight open", law(x, "hear when " + "(".repeat(8) + "1=1 or 1=1 and 1+1*"), -1);
        due("the next text begins anew", law(x, "miss when " + "(".repeat(8) + "1=1" + ")".repeat(8) + ";"), 1);
        due("fault(0)", x.fault(0), 0);
        due("and means what it says", x.hears(0, 1, 2), 0);
        says("at one place the least");
        fault("hear when 1/00000=1;", 1, 12);
        fault("hear when " + "(".repeat(8) + "1(", 1, 19);
        fault("hear when " + "not ".repeat(8) + "1 not", 1, 44);
        fault("hear;".repeat(16) + "hears", 1, 80);
        says("1 what can't stand there (the end: the text's length)");
        fault("hear", 1, 4);
        fault("hear \n ", 1, 7);
        fault("hear when 1=1" + " ".repeat(387), 1, 400);
        fault("hear;" + " ".repeat(394) + "x", 1, 399);
        fault("x" + " ".repeat(399), 1, 0);
        good(" ".repeat(400));
        good("");
        says("2 (at the NUMBER) a part by 0.");
        for (String zero : new String[] {"0", "00", "000", "0000"}) {
            fault("hear when 1/" + zero + "=1;", 2, 12);
            fault("hear when 1/ \n" + zero, 2, 14);
        }
        good("hear when 1/0001=1;");
        good("hear when 0/9999=0*0;");
        says("3 (at its KEYWORD) the 17th line");
        good("hear;".repeat(16));
        fault("miss;".repeat(17), 3, 80);
        fault("hear;".repeat(16) + " \n miss", 3, 83);
        fault("hear;".repeat(16) + " when", 1, 81);
        openOnes();
    }

    private static void openOnes() {
        says("(at it) the 9th ( or not that is open.");
        good("hear when " + "(".repeat(8) + "1=1" + ")".repeat(8) + ";");
        good("hear when " + "not ".repeat(8) + "1=1;");
        fault("hear when " + "(".repeat(9) + "1=1" + ")".repeat(9) + ";", 3, 18);
        fault("hear when " + "not ".repeat(9) + "1=1;", 3, 42);
        fault("hear when " + "not(".repeat(4) + "(", 3, 26);
        fault("hear when " + "not(".repeat(4) + "not", 3, 26);
        good("hear when " + "not(".repeat(4) + "1=1" + ")".repeat(4) + ";");
        // one that is closed does not count any more
        good("hear when " + "(1=1)and ".repeat(20) + "(".repeat(8) + "1=1" + ")".repeat(8) + ";");
        good("hear when " + "not 1=1 and ".repeat(20) + "not ".repeat(8) + "1=1;");
        good("hear when ((((((((1=1)))))))and " + "not ".repeat(7) + "1=1);");
        good("hear when ((((((((1=1)or(1=1))))))));");
        fault("hear when ((((((((1=1)or((", 3, 25);
        good("hear when (not(not(not(1=1)))and((((((not 1=1)))))));");
        good("hear when " + "(".repeat(8) + "1=1" + ")".repeat(8) + ";hear when " + "(".repeat(8) + "1=1"
            + ")".repeat(8) + ";");
        fault("hear when not 1=1 or(((((((not(", 3, 30);
        good("hear when not not not not(1=1)and not not not not(not not not 1=1);");
        fault("hear when not not not not(1=1)and not not not not(not not not not 1=1);", 3, 62);
    }

    private static void whoHears() {
        HearDifference x = choir(20, 10, 34, -1);
        says("by the first line whose B is so, or that has none (hear: yes");
        law(x, "miss when 1=2; hear when 1=1; miss;");
        due("the second line", x.hears(0, 1, 2), 1);
        law(x, "hear; miss when 1=1; miss;");
        due("the first line, which has none", x.hears(0, 1, 2), 1);
        law(x, "miss when 1=2;".repeat(15) + "hear;");
        due("the sixteenth line", x.hears(0, 1, 2), 1);
        says("miss: no)");
        law(x, "miss; hear;");
        due("the first line, which has none", x.hears(0, 1, 2), 0);
        law(x, "hear when 1=2;".repeat(15) + "miss;");
        due("the sixteenth line", x.hears(0, 1, 2), 0);
        says("yes without one");
        law(x, "miss when 1=2; miss when 2=1;");
        due("no line is so", x.hears(0, 1, 2), 1);
        law(x, "miss when 1=2;".repeat(16));
        due("no line of sixteen is so", x.hears(0, 1, 2), 1);
        law(x, "");
        due("no line at all", x.hears(0, 1, 2), 1);
        says("one without a HUM hears nothing");
        due("without a law", x.hears(3, 0, 1), 0);
        due("of(3, 3)", x.of(3, 3), 0);
        law(x, "hear;");
        due("hear;", x.hears(3, 0, 1), 0);
        due("speak", x.speak(0, 1), 4);
    }

    /** Whether the last of a choir hears 0 and 1 by a condition. */
    private static void term(String condition, int... hums) {
        HearDifference x = choir(hums);
        law(x, "hear when " + condition + ";miss;");
        due(condition + " of " + Arrays.toString(hums), x.hears(hums.length - 1, 0, 1), 1);
        due(condition + " of " + Arrays.toString(hums) + ", turned", x.hears(hums.length - 1, 1, 0), 1);
    }

    private static void termsOfTheLaw() {
        says("low, high: the lesser, the greater tone");
        term("low=0 and high=60", 0, 60, 5);
        term("low=0 and high=60", 60, 0, 5);
        term("low=60 and high=60", 60, 60, 5);
        says("apart;");
        term("apart=0", 60, 60, 5);
        term("apart=60", 60, 0, 5);
        says("hum: his");
        term("hum=0", 60, 60, 0);
        term("hum=60", 0, 0, 60);
        says("near: how far the nearer one of both is from his");
        term("near=0", 7, 60, 7);
        term("near=0", 0, 7, 7);
        term("near=5", 10, 20, 15);
        term("near=4", 10, 20, 16);
        term("near=4", 10, 20, 14);
        term("near=60", 0, 0, 60);
        term("near=60", 60, 60, 0);
        says("loud: the sum of LOUD of both");
        term("loud=10", 1, 2, 3);
        HearDifference x = choir(1, 2, 3);
        x.set(2, 2, 7);
        for (int each : new int[] {0, 9}) {
            x.set(2, 0, each);
            x.set(2, 1, each);
            law(x, "hear when loud=" + 2 * each + ";miss;");
            due("hears with loud " + 2 * each, x.hears(2, 0, 1), 1);
        }
        says("crowd: how many others are SOUNDING (not he, not those two)");
        term("crowd=0", 1, 2, 3);
        term("crowd=7", 1, 2, 3, 4, 5, 6, 7, 8, 9, 10);
        term("crowd=1", 1, 2, 3, -1, 5);
        HearDifference y = choir(1, 2, 3, 4);
        law(y, "hear when crowd=1;miss;");
        for (int i = 0; i < 3; i++) {
            y.set(1, i, 0);
            due("they, he and the crowd", y.hears(2, 0, 1), 1);
        }
        y.set(1, 3, 0);
        due("a silent one is no crowd", y.hears(2, 0, 1), 0);
        says("hour;");
        term("hour=0", 1, 2, 3);
        HearDifference z = choir(1, 2, 3);
        for (int i = 0; i < 100; i++) {
            z.hours(i == 0 ? 99 : 100);
        }
        law(z, "hear when hour=9999;miss;");
        due("at hour 9999", z.hears(2, 0, 1), 1);
        says("who: his number");
        term("who=9", 1, 2, 3, 4, 5, 6, 7, 8, 9, 10);
        law(z, "hear when who=0;miss;");
        due("who of 0", z.hears(0, 1, 2), 1);
        due("who of 1", z.hears(1, 0, 2), 0);
    }

    private static void speaking() {
        HearDifference x = choir(1, 2, -1, 4, 5, 6, 7, 8, 9, 10);
        says("SPEAKING of two unlike PEOPLE with HUMS: the WORD");
        due("speak(0, 0)", x.speak(0, 0), -1);
        due("speak(0, 2)", x.speak(0, 2), -1);
        due("speak(2, 0)", x.speak(2, 0), -1);
        due("speak(0, 10)", x.speak(0, 10), -1);
        due("speak(-1, 0)", x.speak(-1, 0), -1);
        says("who HEARS it (of all others)");
        due("all but these and 2", x.speak(0, 9), 1023 - 1 - 512 - 4);
        due("all but these and 2", x.speak(1, 0), 1023 - 3 - 4);
        for (int i = 0; i < 10; i++) {
            x.set(1, i, 0);
        }
        due("silent ones speak and hear too", x.speak(0, 1), 1023 - 3 - 4);
        law(x, "miss;");
        due("nobody", x.speak(0, 1), 0);
        says("THE BOOK (100 lines");
        HearDifference y = choir(0, 60, 5);
        for (int i = 0; i < 100; i++) {
            due("look(2)", y.look(2), i);
            y.speak(i % 2, 1 - i % 2);
        }
        due("look(2)", y.look(2), 100);
        says("no more then): both (the lesser first), WORD, HOUR, the set of who HEARD it.");
        y.hours(1);
        due("the next one is heard", y.speak(1, 2), 1);
        due("look(2)", y.look(2), 100);
        due("book(100, 0)", y.book(100, 0), -1);
        int[] line = {0, 1, 60, 0, 4};
        for (int what = 0; what < 5; what++) {
            due("book(0, " + what + ")", y.book(0, what), line[what]);
            due("book(99, " + what + ")", y.book(99, what), line[what]);
        }
    }

    private static void anHour() {
        says("PERSON by number who is SOUNDING, if SLIP is above 0: a DRAW of 1000: below SLIP his HUM slips");
        HearDifference still = singer(30, 5, 0);
        due("no SLIP", still.hours(100), 0);
        due("no SLIP: no DRAW", still.look(4), 5);
        HearDifference silent = singer(30, 5, 1000);
        silent.set(1, 0, 0);
        due("nobody sounds", silent.hours(100), 0);
        due("nobody sounds: no DRAW", silent.look(4), 5);
        for (int limit : new int[] {1, 2, 500, 999, 1000}) {
            int below = stateBefore(s -> drawn(s, 1000) == limit - 1);
            HearDifference slips = singer(30, below, limit);
            due("a DRAW just below SLIP " + limit, slips.hours(1), 1);
            due("two DRAWS", slips.look(4), next(next(below)));
            if (limit < 1000) {
                int at = stateBefore(s -> drawn(s, 1000) == limit);
                HearDifference stays = singer(30, at, limit);
                due("a DRAW of just SLIP " + limit, stays.hours(1), 0);
                due("one DRAW", stays.look(4), next(at));
                due("his HUM", stays.of(0, 0), 30);
            }
        }
        int order = stateBefore(s -> drawn(s, 1000) < 500 && drawn(next(next(s)), 1000) >= 500);
        HearDifference two = choir(-1, 30, 30, 30);
        two.set(1, 2, 0);
        two.set(3, 0, 500);
        two.state(order);
        due("1 slips, 3 does not", two.hours(1), 1);
        due("1", two.of(1, 0) == 30, false);
        due("2 is silent", two.of(2, 0), 30);
        due("3", two.of(3, 0), 30);
        due("three DRAWS", two.look(4), next(next(next(order))));
        says("by a DRAW of 2: 0: one less (0 at least), 1: one more (60 at most).");
        int down = stateBefore(s -> drawn(next(s), 2) == 0);
        int up = stateBefore(s -> drawn(next(s), 2) == 1);
        int[][] moves = {{0, 0, 1}, {1, 0, 2}, {30, 29, 31}, {59, 58, 60}, {60, 59, 60}};
        for (int[] m : moves) {
            HearDifference x = singer(m[0], down, 1000);
            due("slips", x.hours(1), 1);
            due("one less than " + m[0], x.of(0, 0), m[1]);
            HearDifference y = singer(m[0], up, 1000);
            due("slips", y.hours(1), 1);
            due("one more than " + m[0], y.of(0, 0), m[2]);
        }
        says("HOUR is one more.");
        HearDifference x = new HearDifference();
        x.hours(1);
        due("look(1)", x.look(1), 1);
        x.hours(100);
        due("look(1)", x.look(1), 101);
    }

    private static void thought() {
        says("IN THOUGHT (nothing of it stays).");
        HearDifference y = Sentences.in(Sentences::full);
        int couples = y.of(0, 3);
        int deaf = y.deaf(0, 1);
        int rows = y.fit(6, 0);
        int tones = y.alone(0, 1, 4, 9, 0);
        doc.leavesNoTrace("of(0, 3)", Sentences::full, x -> x.of(0, 3), couples);
        doc.leavesNoTrace("deaf(0, 1)", Sentences::full, x -> x.deaf(0, 1), deaf);
        doc.leavesNoTrace("ruler(6, 15)", Sentences::full, x -> x.ruler(6, 15), 17);
        doc.leavesNoTrace("fit(6, 0)", Sentences::full, x -> x.fit(6, 0), rows);
        doc.leavesNoTrace("fewest(0)", Sentences::full, x -> x.fewest(0), -1);
        doc.leavesNoTrace("alone", Sentences::full, x -> x.alone(0, 1, 4, 9, 0), tones);
        doc.leavesNoTrace("turnOf(0)", Sentences::full, x -> x.turnOf(0), y.turnOf(0));
        doc.leavesNoTrace("same(0, 1)", Sentences::full, x -> x.same(0, 1), 3);
        doc.leavesNoTrace("safe(0)", Sentences::full, x -> x.safe(0), y.safe(0));
    }

    private static void all() {
        says("ALL that a PERSON HEARS now: of all couples of others who are SOUNDING how many he HEARS");
        HearDifference x = choir(0, 7);
        due("no couple of others", x.of(0, 3), 0);
        due("no word", x.of(0, 4), 0);
        x.person(20);
        due("one of them is silent", x.of(0, 3), 0);
        x.set(1, 2, 1);
        due("one couple", x.of(0, 3), 1);
        x.set(1, 0, 0);
        due("he himself may be silent", x.of(0, 3), 1);
        HearDifference ten = choir(0, 1, 4, 10, 12, 17, 30, 30, 30, 60);
        due("36 couples", ten.of(9, 3), 36);
        says("how many unlike WORDS");
        due("1 to 13, 16, 17; 0, 18, 20, 26, 29, 30", ten.of(9, 4), 15 + 6);
        law(ten, "miss when apart>0;");
        due("couples 0 apart", ten.of(9, 3), 3);
        due("the one word 0", ten.of(9, 4), 1);
        law(ten, "miss;");
        due("none", ten.of(9, 3), 0);
        due("none", ten.of(9, 4), 0);
        HearDifference far = choir(0, 60, 60, 30);
        due("words 0 and 60", far.of(3, 4), 2);
        says("DEAF: how many couples fewer he would HEAR (it may be below 0), if another PERSON was not SOUNDING.");
        HearDifference y = choir(1, 2, 3, 4, -1);
        due("two couples fewer", y.deaf(0, 1), 2);
        law(y, "miss when crowd>0;");
        due("none now, one then", y.deaf(0, 1), -1);
        y.set(1, 1, 0);
        due("one who is silent already", y.deaf(0, 1), 0);
        due("one without a HUM", y.deaf(0, 4), 0);
        due("one who hears nothing", y.deaf(4, 0), 0);
        HearDifference most = choir(1, 2, 3, 4, 5, 6, 7, 8, 9, 10);
        law(most, "miss when crowd=7;");
        due("28 couples more", most.deaf(0, 9), -28);
    }

    private static void rulers() {
        HearDifference x = new HearDifference();
        says("RULER of n (1 .. 6) marks: rising tones, the first 0, so that all WORDS between them are unlike");
        int[] lengths = {-1, 0, 1, 3, 6, 11, 17, -1};
        for (int n = 0; n < lengths.length; n++) {
            boolean[] seen = new boolean[18];
            for (int i = 0; i < n && n < 7; i++) {
                for (int j = 0; j < i; j++) {
                    int word = x.ruler(n, 10 + i) - x.ruler(n, 10 + j);
                    due("rising", word > 0, true);
                    due("unlike", seen[word], false);
                    seen[word] = true;
                }
            }
            due("the first", x.ruler(n, 10), n == 0 || n == 7 ? -1 : 0);
        }
        says("the last one least");
        for (int n = 0; n < lengths.length; n++) {
            due("ruler(" + n + ", 0)", x.ruler(n, 0), lengths[n]);
        }
        says("of several the first (mark by mark, the lesser).");
        due("0 1 3, not 0 2 3", x.ruler(3, 11), 1);
        due("0 1 4 6, not 0 2 5 6", x.ruler(4, 11), 1);
        due("0 1 4 9 11, not 0 2 7 8 11", x.ruler(5, 11), 1);
        due("0 1 4 10 12 17, not 0 1 4 10 15 17, 0 1 8 11 13 17", x.ruler(6, 14), 12);
    }

    private static void fitting() {
        HearDifference x = new HearDifference();
        says("FIT: rows of n rising tones, the first 0, the last 24 at most (n 1 .. 6), the WORDS between all couples");
        due("n 0", x.fit(0, 0), -1);
        due("n 7", x.fit(7, 0), -1);
        due("n 1 without a word", x.fit(1, 0), 1);
        due("n 1, its tone", x.fit(1, 10), 0);
        due("n 2 without a word", x.fit(2, 0), 0);
        Sentences.tell(x, 24);
        due("n 1 with a word", x.fit(1, 0), 0);
        due("the last 24", x.fit(2, 11), 24);
        Sentences.tell(x, 4, 8, 12, 16, 20, 24, 4, 8, 12, 16, 20, 4, 8, 12, 16);
        due("too few of the least", x.fit(6, 0), 0);
        Sentences.tell(x, 1, 2, 3, 4, 24, 1, 2, 3, 23, 1, 2, 22, 1, 21, 20);
        due("0 1 2 3 4 24 and its mirror", x.fit(6, 0), 2);
        due("the last", x.fit(6, 15), 24);
        says("of which are just TOLD (each as often): how many");
        Sentences.tell(x, 12, 12, 24);
        due("0 12 24", x.fit(3, 0), 1);
        Sentences.tell(x, 12, 24, 24);
        due("12 once alone", x.fit(3, 0), 0);
        Sentences.tell(x, 12, 24);
        due("a word too few", x.fit(3, 0), 0);
        Sentences.tell(x, 12, 12, 12, 24);
        due("a word too many", x.fit(3, 0), 0);
        Sentences.tell(x, 1, 2, 3);
        due("0 1 3, 0 2 3", x.fit(3, 0), 2);
        says("the first.");
        due("0 1 3", x.fit(3, 11), 1);
        Sentences.tell(x, 3, 2, 1);
        due("in whatever order it is told", x.fit(3, 11), 1);
    }

    private static void fewest() {
        HearDifference x = new HearDifference();
        says("FEWEST: the fewest tones from 0 on, 24 at most, 0 among them (5 in all at most)");
        due("no word: 0 alone", x.fewest(0), 1);
        due("no word: 0 alone", x.fewest(10), 0);
        Sentences.tell(x, 24, 24);
        due("two", x.fewest(0), 2);
        due("24", x.fewest(11), 24);
        Sentences.tell(x, 24, 23, 22, 21);
        due("four great ones by four", x.fewest(0), 4);
        Sentences.tell(x, 24, 23, 22, 21, 20, 19);
        due("six great ones by five", x.fewest(0), 5);
        Sentences.tell(x, 24, 23, 22, 21, 20, 19, 18);
        due("seven great ones by five", x.fewest(0), -1);
        says("so that each WORD TOLD is between some two of them");
        Sentences.tell(x, 1, 2, 3, 4, 5, 6, 7, 8, 9);
        due("nine words by five", x.fewest(0), 5);
        x.tell(9);
        due("one of them twice", x.fewest(0), 5);
        x.tell(10);
        due("ten words by five: no", x.fewest(0), -1);
        says("of several rows the first.");
        Sentences.tell(x, 2);
        due("0 2", x.fewest(11), 2);
        Sentences.tell(x, 1, 24);
        due("0 1 24, not 0 23 24", x.fewest(11), 1);
        Sentences.tell(x, 2, 3);
        due("0 1 3, not 0 2 3", x.fewest(11), 1);
        due("0 1 3, not 0 2 3", x.fewest(12), 3);
    }

    private static void alone() {
        says("ALONE: PEOPLE a, b (both not p) could take other HUMS to say a WORD d so that p HEARS it and nobody else");
        HearDifference x = choir(10, -1, -1, 40);
        due("nobody may hear it but p", x.alone(0, 1, 2, 0, 0), 0);
        due("nobody, the first of all neither", x.alone(3, 1, 2, 0, 0), 0);
        HearDifference ten = choir(1, 2, 3, 4, 5, 6, 7, 8, 9, 10);
        for (int other : new int[] {0, 3, 9}) {
            law(ten, "hear when who=4 or who=" + other + ";miss;");
            due("4 and " + other + " hear it", ten.alone(4, 1, 2, 0, 0), 0);
        }
        law(ten, "hear when who=4 or who=1 or who=2;miss;");
        due("4 and the two who say it", ten.alone(4, 1, 2, 0, 0), 61);
        due("a is p", x.alone(0, 0, 2, 0, 0), -1);
        due("b is p", x.alone(0, 1, 0, 0, 0), -1);
        x.set(0, 3, -1);
        due("one without a HUM hears nothing: all 61 tones", x.alone(0, 1, 2, 0, 0), 61);
        due("the least", x.alone(0, 1, 2, 0, 1), 0);
        due("one tone for a WORD of 60", x.alone(0, 1, 2, 60, 0), 1);
        due("two tones for 59", x.alone(0, 1, 2, 59, 0), 2);
        x.set(0, 1, 5);
        x.set(0, 2, 6);
        due("what a, b hear does not count", x.alone(0, 1, 2, 0, 0), 61);
        due("they stay as they are", x.of(1, 0), 5);
        law(x, "miss;");
        due("p must hear it", x.alone(0, 1, 2, 0, 0), 0);
        due("the least of none", x.alone(0, 1, 2, 0, 1), -1);
        says("a the lesser tone, b the greater by d: for how many tones of a");
        law(x, "hear when low=0 or high=60;miss;");
        due("tones 0 and 59 of a", x.alone(0, 1, 2, 1, 0), 2);
        due("0", x.alone(0, 1, 2, 1, 1), 0);
        law(x, "hear when high=60;miss;");
        says("the least.");
        due("59", x.alone(0, 1, 2, 1, 1), 59);
        due("59, b told first", x.alone(0, 2, 1, 1, 1), 59);
        law(x, "hear when crowd=0;miss;");
        x.set(0, 3, 7);
        x.set(1, 3, 1);
        x.set(1, 0, 1);
        due("3 sounds: a crowd for p, p for 3", x.alone(0, 1, 2, 0, 0), 0);
        x.set(1, 3, 0);
        due("a silent 3: p alone hears", x.alone(0, 1, 2, 0, 0), 61);
    }

    private static void turns() {
        says("TURNS: the fewest turns in which all PAIRS can speak: in one turn no PERSON speaks twice");
        HearDifference x = choir(0, 1, 10, 12, 20, 24, -1, -1, 30, -1);
        due("no PAIR, no turn", x.turnOf(0), 0);
        x.pair(0, 1);
        due("one", x.turnOf(0), 1);
        x.pair(2, 3);
        due("others at once", x.turnOf(0), 1);
        x.pair(3, 4);
        due("3 twice", x.turnOf(0), 2);
        x.pair(-1, 0);
        for (int i = 0; i < 8; i++) {
            x.pair(i % 2, 1 - i % 2);
        }
        due("the same one eight times", x.turnOf(0), 8);
        due("the last of them", x.turnOf(17), 8);
        says("and no two PAIRS say the same WORD (those without a HUM say none)");
        HearDifference y = choir(0, 1, 11, 10, -1, 20, -1, 20);
        y.pair(0, 1);
        y.pair(2, 3);
        due("both say 1", y.turnOf(0), 2);
        y.set(0, 3, -1);
        due("the one says none", y.turnOf(0), 1);
        y.set(0, 3, 9);
        due("1 and 2", y.turnOf(0), 1);
        y.pair(4, 5);
        y.pair(6, 7);
        due("two that say none", y.turnOf(0), 1);
        y.set(0, 0, -1);
        due("three that say none", y.turnOf(0), 1);
        says("which turn each PAIR has: of several ways the first (PAIR by PAIR, the lesser turn).");
        HearDifference z = choir(0, 1, 10, 12, 30, 37);
        z.pair(0, 1);
        z.pair(2, 3);
        z.pair(1, 4);
        z.pair(4, 2);
        int[] way = {1, 2, 2, 1};
        for (int i = 0; i < 4; i++) {
            due("turnOf(" + (10 + i) + ")", z.turnOf(10 + i), way[i]);
        }
    }

    private static void same() {
        HearDifference x = new HearDifference();
        says("SAME of two TUNES: 3, if they are the same");
        Sentences.sing(x, 0, 0, 60, 0, 60, 0, 60, 0, 60, 0, 60, 0, 60);
        Sentences.sing(x, 1, 0, 60, 0, 60, 0, 60, 0, 60, 0, 60, 0, 60);
        due("twelve tones", x.same(0, 1), 3);
        due("itself", x.same(0, 0), 3);
        Sentences.sing(x, 1, 0, 60, 0, 60, 0, 60, 0, 60, 0, 60, 0, 59);
        due("the twelfth is another", x.same(0, 1), 0);
        Sentences.sing(x, 1, 0, 60, 0, 60, 0, 60, 0, 60, 0, 60, 0);
        due("eleven of them", x.same(0, 1), 0);
        says("2, if the one is the other moved by so much");
        Sentences.sing(x, 0, 0);
        Sentences.sing(x, 1, 60);
        due("one tone by 60", x.same(0, 1), 2);
        due("and back", x.same(1, 0), 2);
        Sentences.sing(x, 0, 3, 5, 3);
        Sentences.sing(x, 1, 4, 6, 4);
        due("by 1", x.same(0, 1), 2);
        Sentences.sing(x, 1, 3, 3, 3);
        Sentences.sing(x, 2, 9, 9, 9);
        due("level: moved before turned about", x.same(1, 2), 2);
        says("1, if it is that turned about (each step up as much down), moved");
        Sentences.sing(x, 1, 5, 3, 5);
        due("turned about", x.same(0, 1), 1);
        Sentences.sing(x, 1, 3, 1, 3);
        due("turned about, from the same tone", x.same(0, 1), 1);
        Sentences.sing(x, 0, 0, 60);
        Sentences.sing(x, 1, 60, 0);
        due("from end to end", x.same(0, 1), 1);
        Sentences.sing(x, 0, 1, 2, 4);
        Sentences.sing(x, 1, 4, 2, 1);
        due("backwards is no turning about", x.same(0, 1), 0);
        Sentences.sing(x, 1, 4, 3, 5);
        due("the first step alone", x.same(0, 1), 0);
        says("else 0 (also, if one of them is empty).");
        Sentences.sing(x, 1);
        Sentences.sing(x, 2);
        due("the one", x.same(0, 1), 0);
        due("the other", x.same(1, 0), 0);
        due("both", x.same(1, 2), 0);
        due("an empty one with itself", x.same(1, 1), 0);
    }

    private static void safe() {
        says("SAFE: the greatest set of WORDS 1 .. 24 that some two of PEOPLE with HUMS can say");
        HearDifference x = choir(5, 5, -1);
        due("0 is too small", x.safe(1), 0);
        x.set(0, 1, 6);
        due("1", x.safe(1), 2);
        x.set(0, 1, 29);
        due("24", x.safe(1), 1 << 24);
        x.set(0, 1, 30);
        due("25 is too great", x.safe(1), 0);
        x.set(0, 1, -1);
        due("one HUM alone", x.safe(0), 0);
        due("nobody", new HearDifference().safe(0), 0);
        says("no two of which are less than 3 apart: how many");
        due("1 and 3: 1 alone", choir(0, 30, 31, 60, 57).safe(1), 2);
        due("1 and 4", choir(0, 1, 30, 34).safe(1), 2 + 16);
        due("8 words, 3 apart", choir(0, 1, 4, 7, 10, 13, 16, 19, 22, 47).safe(0), 8);
        says("of several the first (WORD by WORD, the least first).");
        due("1 2 3: 1", choir(0, 1, 3).safe(1), 2);
        due("1 2 3 4: 1, 4", choir(10, 11, 12, 13, 14).safe(1), 2 + 16);
    }

    private static void undo() {
        says("UNDO: the latest SPEAKING, HOUR not undone yet goes back (HUMS, STATE, THE BOOK): 8 are kept");
        HearDifference x = choir(30, 31, 32);
        x.set(3, 0, 1000);
        x.hours(1);
        int hum = x.of(0, 0);
        int state = x.look(4);
        for (int i = 0; i < 7; i++) {
            due("what can be undone", x.look(6), i + 1);
            x.hours(1);
        }
        due("eight", x.look(6), 8);
        x.speak(0, 1);
        due("eight still", x.look(6), 8);
        for (int i = 7; i >= 0; i--) {
            due("undo()", x.undo(), true);
            due("what can be undone", x.look(6), i);
            due("lines", x.look(2), 0);
        }
        due("the ninth", x.undo(), false);
        due("HUM", x.of(0, 0), hum);
        due("STATE", x.look(4), state);
        due("HOUR", x.look(1), 1);
        x.hours(100);
        due("hours are kept one by one", x.look(6), 8);
        x.undo();
        due("one of them", x.look(1), 100);
        x.speak(0, 1);
        x.speak(1, 2);
        x.undo();
        due("the latest", x.book(0, 1), 1);
        due("the latest", x.look(2), 1);
        x.speak(0, 2);
        due("another one in its place", x.book(1, 0), 0);
        forgetting();
    }

    private static int leftAfter(Consumer<HearDifference> told) {
        HearDifference x = choir(30, 31, 32);
        x.image(true);
        x.hours(2);
        x.speak(0, 1);
        told.accept(x);
        return x.look(6);
    }

    private static void forgetting() {
        says("whatever else is told but texts, TUNES, PAIRS, TOLD");
        due("state", leftAfter(x -> x.state(0)), 0);
        due("person", leftAfter(x -> x.person(-1)), 0);
        due("set HUM, as it is", leftAfter(x -> x.set(0, 0, 30)), 0);
        due("set SOUNDING, as it is", leftAfter(x -> x.set(1, 0, 1)), 0);
        due("set LOUD, as it is", leftAfter(x -> x.set(2, 0, 5)), 0);
        due("set SLIP, as it is", leftAfter(x -> x.set(3, 0, 0)), 0);
        due("the going back to THE IMAGE", leftAfter(x -> x.image(false)), 0);
        due("feed", leftAfter(x -> x.feed(0, 0, 0, 0, 0)), 3);
        due("end", leftAfter(x -> x.end(0)), 3);
        due("text", leftAfter(x -> law(x, "miss;")), 3);
        due("a FAULT", leftAfter(x -> law(x, "miss")), 3);
        due("tune", leftAfter(x -> x.tune(0, 5)), 3);
        due("tune, emptied", leftAfter(x -> x.tune(0, -1)), 3);
        due("pair", leftAfter(x -> x.pair(0, 1)), 3);
        due("pair, emptied", leftAfter(x -> x.pair(-1, 1)), 3);
        due("tell", leftAfter(x -> x.tell(5)), 3);
        due("tell, emptied", leftAfter(x -> x.tell(-1)), 3);
        says("(the taking of THE IMAGE does not) forgets them.");
        due("image(true)", leftAfter(x -> x.image(true)), 3);
        due("all of it and undo", leftAfter(x -> {
            x.image(true);
            law(x, "miss;");
            x.undo();
        }), 2);
    }

    private static void image() {
        says("THE IMAGE: all that is and was told but the TAPE, fault() and what can be undone (nothing then)");
        HearDifference x = Sentences.in(Sentences::full);
        x.image(true);
        List<Integer> then = Sentences.allSeen(Sentences.in(y -> {
            Sentences.full(y);
            y.image(true);
            y.end(0);
            law(y, "miss");
            y.image(false);
        }));
        x.state(1);
        x.set(0, 2, -1);
        x.set(2, 3, 0);
        x.set(3, 0, 7);
        Sentences.sing(x, 0, 9, 8, 7, 6, 5, 4, 3, 2, 1, 0, 60, 59);
        x.tune(3, 1);
        x.pair(-1, 0);
        for (int i = 0; i < 8; i++) {
            x.pair(i % 2, 2 + i % 5);
        }
        Sentences.tell(x, 24, 24, 24, 24, 24, 24, 24, 24, 24, 24, 24, 24, 24, 24, 24);
        law(x, "hear;hear;hear;");
        x.hours(30);
        x.speak(0, 1);
        law(x, "miss");
        x.image(false);
        due("all is as it was", Sentences.allSeen(x).equals(then), true);
        x.tune(0, -1);
        x.pair(-1, 0);
        x.tell(-1);
        x.image(false);
        due("TUNES emptied since", x.look(10), 12);
        due("PAIRS emptied since", x.look(7), 8);
        due("TOLD emptied since", x.look(8), 15);
        HearDifference lines = choir(5, 6, 9);
        lines.speak(0, 1);
        lines.speak(0, 2);
        lines.image(true);
        lines.undo();
        lines.undo();
        lines.speak(1, 2);
        lines.speak(1, 2);
        lines.image(false);
        due("THE BOOK too, line by line", lines.book(0, 2), 1);
        due("THE BOOK too, line by line", lines.book(1, 2), 4);
        HearDifference z = Sentences.in(Sentences::full);
        z.image(true);
        z.feed(0, 0, 0, 0, 0);
        z.hours(1);
        z.image(false);
        due("nothing can be undone", z.look(6), 0);
        due("the TAPE stays", z.end(44), true);
        due("the TAPE stays", z.end(45), false);
        due("fault() stays", z.fault(0), 1);
        z.end(0);
        z.text();
        z.image(false);
        due("fault() stays", z.fault(0), 0);
        says("as it was when it was taken");
        HearDifference late = choir(5, 6);
        late.image(true);
        late.set(0, 0, 7);
        late.image(true);
        late.set(0, 0, 8);
        late.image(false);
        due("the latest one", late.of(0, 0), 7);
        says("gone back to it may be more than once.");
        late.set(0, 0, 9);
        due("once more", late.image(false), true);
        due("as it was", late.of(0, 0), 7);
        due("at once again", late.image(false), true);
        due("as it was", late.of(0, 0), 7);
    }
}
