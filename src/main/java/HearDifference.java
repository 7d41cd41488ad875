import java.util.Arrays;

/** A people that hears only how far two tones are apart; DOC.md tells each promise. */
public final class HearDifference {
    public static final int NONE = -1;

    private static final int MOST_PEOPLE = 10;
    private static final int HIGHEST_TONE = 60;
    private static final int LOUDEST = 9;
    private static final int FIRST_LOUD = 5;
    private static final int MOST_SLIP = 1000;
    private static final int LAST_HOUR = 9999;
    private static final int MOST_HOURS_AT_ONCE = 100;
    private static final int TUNES = 4;
    private static final int TUNE_LENGTH = 12;
    private static final int MOST_PAIRS = 8;
    private static final int MOST_TOLD = 15;
    private static final int HIGHEST_TOLD = 24;
    private static final int MOST_MARKS = 6;
    private static final int MOST_FEWEST = 5;
    private static final int SAFE_DISTANCE = 3;
    private static final int MOST_BYTES = 400;
    private static final int BYTES_A_FEED = 20;
    private static final int MOST_LINES = 16;
    private static final int MOST_OPEN = 8;
    private static final int BOOK_LINES = 100;
    private static final int BOOK_COLUMNS = 5;
    private static final int UNDOS_KEPT = 8;
    /** Where the parts of a row begin among the numbers of a "what". */
    private static final int ROW = 10;

    /** The shortest rulers of 1 to 6 marks, one behind the other; that of n begins at n * (n - 1) / 2. */
    private static final int[] RULERS = {0, 0, 1, 0, 1, 3, 0, 1, 4, 6, 0, 1, 4, 9, 11, 0, 1, 4, 10, 12, 17};

    private static final int FAULT_PLACED = 1;
    private static final int FAULT_ZERO = 2;
    private static final int FAULT_MANY = 3;

    /** Kinds of TOKENS: a sign is its own character, the KEYWORDS stand from HEAR to WHO, the terms from LOW. */
    private static final int END = 0;
    private static final int NO_TOKEN = 1;
    private static final int NUMBER = 2;
    private static final int HEAR = 200;
    private static final int MISS = 201;
    private static final int WHEN = 202;
    private static final int OR = 203;
    private static final int AND = 204;
    private static final int NOT = 205;
    private static final int LOW = 206;
    private static final int HIGH = 207;
    private static final int APART = 208;
    private static final int HUM = 209;
    private static final int NEAR = 210;
    private static final int LOUD = 211;
    private static final int CROWD = 212;
    private static final int HOUR = 213;
    private static final int WHO = 214;

    private final World world;
    private final World kept;
    private boolean imageTaken;
    private final Past past;
    private final Reader reader;
    private int tapeLength;
    private int latestFault;
    private int latestPlace;
    private final Ear ear;
    private final Turns turns;
    private final Fitting fitting;
    private final Cover cover;

    public HearDifference() {
        world = new World();
        kept = new World();
        imageTaken = false;
        past = new Past();
        reader = new Reader();
        tapeLength = 0;
        latestFault = 0;
        latestPlace = NONE;
        ear = new Ear();
        turns = new Turns();
        fitting = new Fitting();
        cover = new Cover();
    }

    public int state(int v) {
        int before = world.draws;
        world.draws = v;
        past.forget();
        return before;
    }

    public int person(int hum) {
        if (!isToneOrNone(hum) || world.people >= MOST_PEOPLE) {
            return NONE;
        }
        int number = world.people;
        world.hums[number] = hum;
        world.people = number + 1;
        past.forget();
        return number;
    }

    public boolean set(int what, int person, int v) {
        boolean told = what == 3 ? tellSlip(v) : world.isPerson(person) && tellOfPerson(what, person, v);
        if (told) {
            past.forget();
        }
        return told;
    }

    public int feed(int a, int b, int c, int d, int e) {
        if (tapeLength > MOST_BYTES - BYTES_A_FEED) {
            return NONE;
        }
        putBytes(a);
        putBytes(b);
        putBytes(c);
        putBytes(d);
        putBytes(e);
        return tapeLength;
    }

    public boolean end(int n) {
        if (n < 0 || n > tapeLength) {
            return false;
        }
        tapeLength = n;
        return true;
    }

    public int text() {
        boolean good = reader.readLaw(tapeLength);
        latestFault = reader.foundFault;
        latestPlace = reader.foundPlace;
        tapeLength = 0;
        if (!good) {
            return NONE;
        }
        world.law.copyFrom(reader.draft);
        return world.law.lines;
    }

    public int fault(int what) {
        if (what == 0) {
            return latestFault;
        }
        return what == 1 ? latestPlace : NONE;
    }

    public int speak(int a, int b) {
        if (a == b || !world.hasHum(a) || !world.hasHum(b)) {
            return NONE;
        }
        past.keep(world);
        int hearers = ear.hearersOf(world, a, b);
        world.book.write(Math.min(a, b), Math.max(a, b), world.wordOf(a, b), world.hourNow, hearers);
        return hearers;
    }

    public int hours(int n) {
        if (n < 1 || n > MOST_HOURS_AT_ONCE || world.hourNow + n > LAST_HOUR) {
            return NONE;
        }
        int slipped = 0;
        for (int i = 0; i < n; i++) {
            past.keep(world);
            slipped += world.passHour();
        }
        return slipped;
    }

    public int of(int person, int what) {
        if (!world.isPerson(person)) {
            return NONE - 1;
        }
        switch (what) {
            case 0:
                return world.hums[person];
            case 1:
                return world.voices >> person & 1;
            case 2:
                return world.louds[person];
            case 3:
                return ear.couplesHeard(world, person, world.voices);
            case 4:
                return ear.wordsHeard(world, person);
            default:
                return NONE - 1;
        }
    }

    public int hears(int person, int a, int b) {
        if (!areThree(person, a, b) || !world.hasHum(a) || !world.hasHum(b)) {
            return NONE;
        }
        return ear.hearsNow(world, person, world.voices, a, b) ? 1 : 0;
    }

    public int deaf(int person, int without) {
        if (person == without || !world.isPerson(person) || !world.isPerson(without)) {
            return NONE - 999;
        }
        int fewer = world.voices & ~(1 << without);
        return ear.couplesHeard(world, person, world.voices) - ear.couplesHeard(world, person, fewer);
    }

    public int book(int i, int what) {
        return world.book.read(i, what);
    }

    public int tune(int tune, int tone) {
        if (!isTune(tune) || !isToneOrNone(tone)) {
            return NONE;
        }
        int length = world.tuneLengths[tune];
        if (tone == NONE) {
            world.tuneLengths[tune] = 0;
            return 0;
        }
        if (length >= TUNE_LENGTH) {
            return NONE;
        }
        world.tones[tune * TUNE_LENGTH + length] = tone;
        world.tuneLengths[tune] = length + 1;
        return length + 1;
    }

    public int same(int a, int b) {
        if (!isTune(a) || !isTune(b)) {
            return NONE;
        }
        int length = world.tuneLengths[a];
        if (length == 0 || length != world.tuneLengths[b]) {
            return 0;
        }
        if (stepsAgree(a, b, length, 1)) {
            return world.toneOf(a, 0) == world.toneOf(b, 0) ? 3 : 2;
        }
        return stepsAgree(a, b, length, -1) ? 1 : 0;
    }

    public int pair(int a, int b) {
        if (a == NONE) {
            world.pairs = 0;
            return 0;
        }
        if (a == b || !world.isPerson(a) || !world.isPerson(b) || world.pairs >= MOST_PAIRS) {
            return NONE;
        }
        world.pairOnes[world.pairs] = a;
        world.pairOthers[world.pairs] = b;
        world.pairs++;
        return world.pairs;
    }

    public int turnOf(int what) {
        if (what == 0) {
            return turns.arrange(world);
        }
        if (!isInRow(what, world.pairs)) {
            return NONE;
        }
        turns.arrange(world);
        return turns.given[what - ROW];
    }

    public int tell(int word) {
        if (word == NONE) {
            world.toldCount = 0;
            return 0;
        }
        if (word < 1 || word > HIGHEST_TOLD || world.toldCount >= MOST_TOLD) {
            return NONE;
        }
        world.told[world.toldCount] = word;
        world.toldCount++;
        return world.toldCount;
    }

    public int fit(int n, int what) {
        if (n < 1 || n > MOST_MARKS || (what != 0 && !isInRow(what, n))) {
            return NONE;
        }
        int rows = fitting.countRows(n, world);
        if (what == 0) {
            return rows;
        }
        return rows == 0 ? NONE : fitting.first[what - ROW];
    }

    public int fewest(int what) {
        if (what != 0 && !isInRow(what, MOST_FEWEST)) {
            return NONE;
        }
        int size = cover.leastSize(world.toldSet());
        if (what == 0) {
            return size;
        }
        return isInRow(what, size) ? cover.row[what - ROW] : NONE;
    }

    public int ruler(int n, int what) {
        if (n < 1 || n > MOST_MARKS) {
            return NONE;
        }
        int begin = n * (n - 1) / 2;
        if (what == 0) {
            return RULERS[begin + n - 1];
        }
        return isInRow(what, n) ? RULERS[begin + what - ROW] : NONE;
    }

    public int alone(int p, int a, int b, int d, int what) {
        if (!areThree(p, a, b) || !world.hasHum(p) || d < 0 || d > HIGHEST_TONE || what < 0 || what > 1) {
            return NONE;
        }
        int count = 0;
        int least = NONE;
        for (int tone = HIGHEST_TONE - d; tone >= 0; tone--) {
            ear.attend(world, a, b, tone, tone + d);
            if (ear.onlyOneHears(world, p)) {
                count++;
                least = tone;
            }
        }
        return what == 0 ? count : least;
    }

    public int safe(int what) {
        if (what < 0 || what > 1) {
            return NONE;
        }
        int chosen = firstSafeWords(world.wordsSayable());
        return what == 0 ? Integer.bitCount(chosen) : chosen;
    }

    public boolean undo() {
        return past.goBack(world);
    }

    public boolean image(boolean taken) {
        if (taken) {
            kept.copyFrom(world);
            imageTaken = true;
            return true;
        }
        if (!imageTaken) {
            return false;
        }
        world.copyFrom(kept);
        past.forget();
        return true;
    }

    public int look(int what) {
        switch (what) {
            case 0:
                return world.people;
            case 1:
                return world.hourNow;
            case 2:
                return world.book.lines;
            case 3:
                return world.slip;
            case 4:
                return world.draws;
            case 5:
                return world.law.lines;
            case 6:
                return past.count;
            case 7:
                return world.pairs;
            case 8:
                return world.toldCount;
            default:
                return isInRow(what, TUNES) ? world.tuneLengths[what - ROW] : NONE;
        }
    }

    private static boolean isToneOrNone(int tone) {
        return tone >= NONE && tone <= HIGHEST_TONE;
    }

    private static boolean isTune(int tune) {
        return tune >= 0 && tune < TUNES;
    }

    private static boolean isInRow(int what, int length) {
        return what >= ROW && what - ROW < length;
    }

    private boolean areThree(int person, int a, int b) {
        return world.isPerson(person) && world.isPerson(a) && world.isPerson(b)
            && person != a && person != b && a != b;
    }

    private boolean tellSlip(int v) {
        if (v < 0 || v > MOST_SLIP) {
            return false;
        }
        world.slip = v;
        return true;
    }

    private boolean tellOfPerson(int what, int person, int v) {
        switch (what) {
            case 0:
                return tellHum(person, v);
            case 1:
                return tellSounding(person, v);
            case 2:
                return tellLoud(person, v);
            default:
                return false;
        }
    }

    private boolean tellHum(int person, int v) {
        if (!isToneOrNone(v)) {
            return false;
        }
        world.hums[person] = v;
        if (v == NONE) {
            world.voices &= ~(1 << person);
        }
        return true;
    }

    private boolean tellSounding(int person, int v) {
        if (v == 0) {
            world.voices &= ~(1 << person);
            return true;
        }
        if (v != 1 || !world.hasHum(person)) {
            return false;
        }
        world.voices |= 1 << person;
        return true;
    }

    private boolean tellLoud(int person, int v) {
        if (v < 0 || v > LOUDEST) {
            return false;
        }
        world.louds[person] = v;
        return true;
    }

    private void putBytes(int four) {
        for (int shift = 24; shift >= 0 && tapeLength < MOST_BYTES; shift -= 8) {
            reader.tape[tapeLength] = (byte) (four >> shift);
            tapeLength++;
        }
    }

    /** Whether each step of tune a is the one of tune b, taken up (way 1) or turned about (way -1). */
    private boolean stepsAgree(int a, int b, int length, int way) {
        for (int i = 1; i < length; i++) {
            int step = world.toneOf(a, i) - world.toneOf(a, i - 1);
            int other = world.toneOf(b, i) - world.toneOf(b, i - 1);
            if (step != way * other) {
                return false;
            }
        }
        return true;
    }

    /** The least WORD that is far enough leaves the most room: so the set is the greatest, and the first. */
    private static int firstSafeWords(int sayable) {
        int chosen = 0;
        int next = 1;
        for (int word = 1; word <= HIGHEST_TOLD; word++) {
            if (word >= next && (sayable >> word & 1) == 1) {
                chosen |= 1 << word;
                next = word + SAFE_DISTANCE;
            }
        }
        return chosen;
    }

    /** All that is and was told, but the TAPE, the latest FAULT and what can be undone. THE IMAGE is one too. */
    private static final class World {
        private int draws;
        private int people;
        private final int[] hums;
        private final int[] louds;
        /** The set of those who are SOUNDING; each of them has a HUM. */
        private int voices;
        private int slip;
        private int hourNow;
        private final int[] tones;
        private final int[] tuneLengths;
        private int pairs;
        private final int[] pairOnes;
        private final int[] pairOthers;
        private int toldCount;
        private final int[] told;
        private final Law law;
        private final Book book;

        private World() {
            hums = new int[MOST_PEOPLE];
            louds = new int[MOST_PEOPLE];
            Arrays.fill(hums, NONE);
            Arrays.fill(louds, FIRST_LOUD);
            tones = new int[TUNES * TUNE_LENGTH];
            tuneLengths = new int[TUNES];
            pairOnes = new int[MOST_PAIRS];
            pairOthers = new int[MOST_PAIRS];
            told = new int[MOST_TOLD];
            law = new Law();
            book = new Book();
        }

        private void copyFrom(World other) {
            draws = other.draws;
            people = other.people;
            System.arraycopy(other.hums, 0, hums, 0, MOST_PEOPLE);
            System.arraycopy(other.louds, 0, louds, 0, MOST_PEOPLE);
            voices = other.voices;
            slip = other.slip;
            hourNow = other.hourNow;
            System.arraycopy(other.tones, 0, tones, 0, TUNES * TUNE_LENGTH);
            System.arraycopy(other.tuneLengths, 0, tuneLengths, 0, TUNES);
            pairs = other.pairs;
            System.arraycopy(other.pairOnes, 0, pairOnes, 0, MOST_PAIRS);
            System.arraycopy(other.pairOthers, 0, pairOthers, 0, MOST_PAIRS);
            toldCount = other.toldCount;
            System.arraycopy(other.told, 0, told, 0, MOST_TOLD);
            law.copyFrom(other.law);
            book.copyFrom(other.book);
        }

        private boolean isPerson(int number) {
            return number >= 0 && number < people && number < MOST_PEOPLE;
        }

        private boolean hasHum(int number) {
            return isPerson(number) && hums[number] != NONE;
        }

        private int wordOf(int a, int b) {
            return Math.abs(hums[a] - hums[b]);
        }

        private int toneOf(int tune, int i) {
            return tones[tune * TUNE_LENGTH + i];
        }

        private int toldSet() {
            int words = 0;
            for (int i = 0; i < toldCount; i++) {
                words |= 1 << told[i];
            }
            return words;
        }

        /** The set of WORDS 1 .. 24 between any two HUMS. */
        private int wordsSayable() {
            int words = 0;
            for (int a = 0; a < people; a++) {
                for (int b = 0; b < a; b++) {
                    int word = wordOf(a, b);
                    if (hasHum(a) && hasHum(b) && word >= 1 && word <= HIGHEST_TOLD) {
                        words |= 1 << word;
                    }
                }
            }
            return words;
        }

        /** A DRAW of 1 to 1000. */
        private int draw(int m) {
            draws = 1664525 * draws + 1013904223;
            return m < 1 ? 0 : (draws >>> 8) % m;
        }

        /** One HOUR: how many HUMS slipped. */
        private int passHour() {
            int slipped = 0;
            for (int i = 0; i < people && slip > 0; i++) {
                if ((voices >> i & 1) == 1 && draw(1000) < slip) {
                    int moved = draw(2) == 0 ? hums[i] - 1 : hums[i] + 1;
                    hums[i] = Math.max(0, Math.min(HIGHEST_TONE, moved));
                    slipped++;
                }
            }
            hourNow++;
            return slipped;
        }
    }

    /** THE LAW as steps for a stack: a NUMBER is itself, a term or a sign is its kind below 0. */
    private static final class Law {
        private int lines;
        /** The set of lines that say hear. */
        private int hearLines;
        private final int[] lineEnds;
        private int size;
        private final int[] steps;

        private Law() {
            lineEnds = new int[MOST_LINES];
            steps = new int[MOST_BYTES];
        }

        private void copyFrom(Law other) {
            lines = other.lines;
            hearLines = other.hearLines;
            System.arraycopy(other.lineEnds, 0, lineEnds, 0, MOST_LINES);
            size = other.size;
            System.arraycopy(other.steps, 0, steps, 0, size);
        }

        private void empty() {
            lines = 0;
            hearLines = 0;
            size = 0;
        }

        private void add(int step) {
            if (size < MOST_BYTES) {
                steps[size] = step;
                size++;
            }
        }

        private void closeLine(boolean hear) {
            if (lines < MOST_LINES) {
                hearLines |= hear ? 1 << lines : 0;
                lineEnds[lines] = size;
                lines++;
            }
        }
    }

    /** THE BOOK: its lines stand one behind the other. */
    private static final class Book {
        private int lines;
        private final int[] cells;

        private Book() {
            cells = new int[BOOK_LINES * BOOK_COLUMNS];
        }

        private void copyFrom(Book other) {
            lines = other.lines;
            System.arraycopy(other.cells, 0, cells, 0, lines * BOOK_COLUMNS);
        }

        private void write(int one, int another, int word, int hour, int hearers) {
            if (lines >= BOOK_LINES) {
                return;
            }
            int begin = lines * BOOK_COLUMNS;
            cells[begin] = one;
            cells[begin + 1] = another;
            cells[begin + 2] = word;
            cells[begin + 3] = hour;
            cells[begin + 4] = hearers;
            lines++;
        }

        private int read(int line, int column) {
            if (line < 0 || line >= lines || column < 0 || column >= BOOK_COLUMNS) {
                return NONE;
            }
            return cells[line * BOOK_COLUMNS + column];
        }
    }

    /** What can be undone: a ring of what SPEAKINGS and HOURS can change, as it was before each. */
    private static final class Past {
        private int next;
        private int count;
        private final int[] hums;
        private final int[] draws;
        private final int[] hours;
        private final int[] bookLines;

        private Past() {
            hums = new int[UNDOS_KEPT * MOST_PEOPLE];
            draws = new int[UNDOS_KEPT];
            hours = new int[UNDOS_KEPT];
            bookLines = new int[UNDOS_KEPT];
        }

        private void forget() {
            count = 0;
        }

        private void keep(World world) {
            System.arraycopy(world.hums, 0, hums, next * MOST_PEOPLE, MOST_PEOPLE);
            draws[next] = world.draws;
            hours[next] = world.hourNow;
            bookLines[next] = world.book.lines;
            next = (next + 1) % UNDOS_KEPT;
            count = Math.min(count + 1, UNDOS_KEPT);
        }

        private boolean goBack(World world) {
            if (count == 0) {
                return false;
            }
            next = (next + UNDOS_KEPT - 1) % UNDOS_KEPT;
            count--;
            System.arraycopy(hums, next * MOST_PEOPLE, world.hums, 0, MOST_PEOPLE);
            world.draws = draws[next];
            world.hourNow = hours[next];
            world.book.lines = bookLines[next];
            return true;
        }
    }

    /** Reads a TEXT as a LAW, TOKEN by TOKEN, and stops at the first FAULT. */
    private static final class Reader {
        /** Eight open ones, an or and an and for each and for the line, and three signs of a comparison: 29 at most. */
        private static final int ROOM = 32;

        /** What can stand at a place. */
        private static final int LINE = 0;
        private static final int LINE_TAIL = 1;
        private static final int CONDITION = 2;
        private static final int VALUE = 3;
        private static final int DIVISOR = 4;
        private static final int VALUE_TAIL = 5;
        private static final int CONDITION_TAIL = 6;

        private final byte[] tape;
        private final Law draft;
        private int foundFault;
        private int foundPlace;
        private int length;
        private int kind;
        private int number;
        /** Where the TOKEN begins, and where the search for the next one does. */
        private int place;
        private int behind;
        private int awaited;
        private boolean lineHear;
        private boolean compared;
        /** The signs that still wait for what stands behind them. */
        private final int[] waiting;
        private int top;
        private int open;

        private Reader() {
            tape = new byte[MOST_BYTES];
            draft = new Law();
            waiting = new int[ROOM];
            foundPlace = NONE;
        }

        private boolean readLaw(int textLength) {
            length = textLength;
            behind = 0;
            foundFault = 0;
            foundPlace = NONE;
            awaited = LINE;
            top = 0;
            open = 0;
            draft.empty();
            for (int i = 0; i <= MOST_BYTES; i++) {
                step();
                if (kind == END && awaited == LINE) {
                    return true;
                }
                if (!accept()) {
                    return false;
                }
            }
            return false;
        }

        private boolean refuse(int reason) {
            foundFault = reason;
            foundPlace = place;
            return false;
        }

        private boolean accept() {
            switch (awaited) {
                case LINE:
                    return acceptLine();
                case LINE_TAIL:
                    return acceptLineTail();
                case CONDITION:
                    return acceptCondition();
                case VALUE:
                    return acceptValue();
                case DIVISOR:
                    return acceptDivisor();
                case VALUE_TAIL:
                    return acceptValueTail();
                default:
                    return acceptConditionTail();
            }
        }

        private boolean acceptLine() {
            if (kind != HEAR && kind != MISS) {
                return refuse(FAULT_PLACED);
            }
            if (draft.lines >= MOST_LINES) {
                return refuse(FAULT_MANY);
            }
            lineHear = kind == HEAR;
            awaited = LINE_TAIL;
            return true;
        }

        private boolean acceptLineTail() {
            if (kind == WHEN) {
                awaited = CONDITION;
                return true;
            }
            return kind == ';' ? closeLine() : refuse(FAULT_PLACED);
        }

        private boolean acceptCondition() {
            if (kind != NOT && kind != '(') {
                compared = false;
                return acceptValue();
            }
            if (open >= MOST_OPEN) {
                return refuse(FAULT_MANY);
            }
            open++;
            return holdSign(kind, CONDITION);
        }

        private boolean acceptValue() {
            if (kind == NUMBER) {
                draft.add(number);
            } else if (kind >= LOW && kind <= WHO) {
                draft.add(-kind);
            } else {
                return refuse(FAULT_PLACED);
            }
            awaited = VALUE_TAIL;
            return true;
        }

        private boolean acceptDivisor() {
            if (kind != NUMBER) {
                return refuse(FAULT_PLACED);
            }
            return number == 0 ? refuse(FAULT_ZERO) : acceptValue();
        }

        private boolean acceptValueTail() {
            int rank = rankOf(kind);
            if (rank >= rankOf('+')) {
                settle(rank);
                return holdSign(kind, kind == '/' ? DIVISOR : VALUE);
            }
            if (compared) {
                return acceptConditionTail();
            }
            if (rank != rankOf('=')) {
                return refuse(FAULT_PLACED);
            }
            settle(rank);
            compared = true;
            return holdSign(kind, VALUE);
        }

        private boolean acceptConditionTail() {
            if (kind == AND || kind == OR) {
                settle(rankOf(kind));
                return holdSign(kind, CONDITION);
            }
            if (kind != ')' && kind != ';') {
                return refuse(FAULT_PLACED);
            }
            settle(rankOf(OR));
            boolean bracketOpen = top > 0;
            if (bracketOpen != (kind == ')')) {
                return refuse(FAULT_PLACED);
            }
            return bracketOpen ? closeBracket() : closeLine();
        }

        private boolean closeBracket() {
            top--;
            open--;
            awaited = CONDITION_TAIL;
            return true;
        }

        private boolean closeLine() {
            draft.closeLine(lineHear);
            awaited = LINE;
            return true;
        }

        /** The sign waits while what stands behind it is read. */
        private boolean holdSign(int sign, int next) {
            if (top >= ROOM) {
                return refuse(FAULT_MANY);
            }
            waiting[top] = sign;
            top++;
            awaited = next;
            return true;
        }

        /** The waiting signs that bind as strongly as a rank, or more, have all that they need. */
        private void settle(int rank) {
            for (int i = top - 1; i >= 0 && rankOf(waiting[i]) >= rank; i--) {
                draft.add(-waiting[i]);
                if (waiting[i] == NOT) {
                    open--;
                }
                top = i;
            }
        }

        /** How strongly a sign binds; 0 for what joins nothing. */
        private static int rankOf(int sign) {
            switch (sign) {
                case OR:
                    return 1;
                case AND:
                    return 2;
                case NOT:
                    return 3;
                case '<':
                case '=':
                case '>':
                    return 4;
                case '+':
                case '-':
                    return 5;
                case '*':
                case '/':
                    return 6;
                default:
                    return 0;
            }
        }

        /** Goes to the next TOKEN. */
        private void step() {
            place = behind;
            for (int i = behind; i < length && isBlank(signAt(i)); i++) {
                place = i + 1;
            }
            behind = place + 1;
            int sign = signAt(place);
            if (place >= length) {
                behind = length;
                kind = END;
            } else if (isLetter(sign)) {
                takeLetters();
            } else if (isDigit(sign)) {
                takeDigits();
            } else {
                kind = isSign(sign) ? sign : NO_TOKEN;
            }
        }

        private void takeLetters() {
            for (int i = behind; i < length && isLetter(signAt(i)); i++) {
                behind = i + 1;
            }
            kind = NO_TOKEN;
            for (int keyword = HEAR; keyword <= WHO; keyword++) {
                if (isSpelt(nameOf(keyword))) {
                    kind = keyword;
                }
            }
        }

        private void takeDigits() {
            number = signAt(place) - '0';
            for (int i = behind; i < length && isDigit(signAt(i)); i++) {
                number = number * 10 + signAt(i) - '0';
                behind = i + 1;
            }
            kind = behind - place <= 4 ? NUMBER : NO_TOKEN;
        }

        private boolean isSpelt(String name) {
            if (name.length() != behind - place) {
                return false;
            }
            for (int i = 0; i < name.length(); i++) {
                if (name.charAt(i) != signAt(place + i)) {
                    return false;
                }
            }
            return true;
        }

        /** The sign at a place, 0 to 255; 0 where the text has none. */
        private int signAt(int i) {
            return i >= 0 && i < length && i < tape.length ? tape[i] & 255 : 0;
        }

        private static boolean isBlank(int sign) {
            return sign == ' ' || sign == '\n';
        }

        private static boolean isLetter(int sign) {
            return (sign >= 'a' && sign <= 'z') || (sign >= 'A' && sign <= 'Z');
        }

        private static boolean isDigit(int sign) {
            return sign >= '0' && sign <= '9';
        }

        private static boolean isSign(int sign) {
            return ";+-*/()<=>".indexOf((char) sign) >= 0;
        }

        private static String nameOf(int keyword) {
            switch (keyword) {
                case HEAR:
                    return "hear";
                case MISS:
                    return "miss";
                case WHEN:
                    return "when";
                case OR:
                    return "or";
                case AND:
                    return "and";
                case NOT:
                    return "not";
                case LOW:
                    return "low";
                case HIGH:
                    return "high";
                case APART:
                    return "apart";
                case HUM:
                    return "hum";
                case NEAR:
                    return "near";
                case LOUD:
                    return "loud";
                case CROWD:
                    return "crowd";
                case HOUR:
                    return "hour";
                case WHO:
                    return "who";
                default:
                    return "";
            }
        }
    }

    /** Who HEARS what by THE LAW of a world. */
    private static final class Ear {
        /** Eight open brackets keep two values each, the innermost condition six: 22 at most. */
        private static final int ROOM = 32;

        private final int[] stack;
        private int top;
        /** What all who listen have in common: the two tones, who sings them, how loudly, and when. */
        private int low;
        private int high;
        private int singers;
        private int bothLoud;
        private int hour;
        /** What is another's for each who listens. */
        private int listener;
        private int own;
        private int crowd;

        private Ear() {
            stack = new int[ROOM];
        }

        /** The set of all others who HEAR a and b. */
        private int hearersOf(World world, int a, int b) {
            attend(world, a, b, world.hums[a], world.hums[b]);
            int hearers = 0;
            for (int i = 0; i < world.people; i++) {
                if (!isSinger(i) && hearsThem(world, i, world.voices)) {
                    hearers |= 1 << i;
                }
            }
            return hearers;
        }

        private int couplesHeard(World world, int person, int voices) {
            int count = 0;
            int others = voices & ~(1 << person);
            for (int a = 0; a < world.people; a++) {
                for (int b = 0; b < a; b++) {
                    if ((others >> a & others >> b & 1) == 1 && hearsNow(world, person, voices, a, b)) {
                        count++;
                    }
                }
            }
            return count;
        }

        private int wordsHeard(World world, int person) {
            long words = 0;
            int others = world.voices & ~(1 << person);
            for (int a = 0; a < world.people; a++) {
                for (int b = 0; b < a; b++) {
                    if ((others >> a & others >> b & 1) == 1 && hearsNow(world, person, world.voices, a, b)) {
                        words |= 1L << world.wordOf(a, b);
                    }
                }
            }
            return Long.bitCount(words);
        }

        private boolean hearsNow(World world, int person, int voices, int a, int b) {
            attend(world, a, b, world.hums[a], world.hums[b]);
            return hearsThem(world, person, voices);
        }

        /** Two PEOPLE sing two tones, be they their HUMS or not. */
        private void attend(World world, int a, int b, int toneA, int toneB) {
            low = Math.min(toneA, toneB);
            high = Math.max(toneA, toneB);
            singers = 1 << a | 1 << b;
            bothLoud = world.louds[a] + world.louds[b];
            hour = world.hourNow;
        }

        private boolean isSinger(int person) {
            return (singers >> person & 1) == 1;
        }

        /** Whether one HEARS what is attended to, and nobody else but those who sing it. */
        private boolean onlyOneHears(World world, int only) {
            if (!hearsThem(world, only, world.voices)) {
                return false;
            }
            for (int i = 0; i < world.people; i++) {
                if (i != only && !isSinger(i) && hearsThem(world, i, world.voices)) {
                    return false;
                }
            }
            return true;
        }

        /** Whether a PERSON HEARS what is attended to, if those in the set voices are SOUNDING. */
        private boolean hearsThem(World world, int person, int voices) {
            if (!world.hasHum(person)) {
                return false;
            }
            listener = person;
            own = world.hums[person];
            crowd = Integer.bitCount(voices & ~(singers | 1 << person));
            Law law = world.law;
            int begin = 0;
            for (int line = 0; line < law.lines; line++) {
                if (isSo(law, begin, law.lineEnds[line])) {
                    return (law.hearLines >> line & 1) == 1;
                }
                begin = law.lineEnds[line];
            }
            return true;
        }

        /** Whether the condition between two places of a law is so; one without steps is. */
        private boolean isSo(Law law, int begin, int end) {
            if (begin >= end) {
                return true;
            }
            top = 0;
            for (int i = begin; i < end; i++) {
                int step = law.steps[i];
                if (step >= 0) {
                    push(step);
                } else if (step <= -LOW) {
                    push(valueOf(-step));
                } else if (step == -NOT) {
                    push(1 - pop());
                } else {
                    int right = pop();
                    push(joined(-step, pop(), right));
                }
            }
            return pop() == 1;
        }

        private void push(int value) {
            if (top < ROOM) {
                stack[top] = value;
                top++;
            }
        }

        private int pop() {
            if (top <= 0) {
                return 0;
            }
            top--;
            return stack[top];
        }

        private int valueOf(int term) {
            switch (term) {
                case LOW:
                    return low;
                case HIGH:
                    return high;
                case APART:
                    return high - low;
                case HUM:
                    return own;
                case NEAR:
                    return Math.min(Math.abs(low - own), Math.abs(high - own));
                case LOUD:
                    return bothLoud;
                case CROWD:
                    return crowd;
                case HOUR:
                    return hour;
                case WHO:
                    return listener;
                default:
                    return 0;
            }
        }

        private static int joined(int sign, int left, int right) {
            switch (sign) {
                case '+':
                    return left + right;
                case '-':
                    return left - right;
                case '*':
                    return left * right;
                case '/':
                    return right == 0 ? 0 : left / right;
                case '<':
                    return left < right ? 1 : 0;
                case '=':
                    return left == right ? 1 : 0;
                case '>':
                    return left > right ? 1 : 0;
                case AND:
                    return left & right;
                case OR:
                    return left | right;
                default:
                    return 0;
            }
        }
    }

    /** The fewest turns for all PAIRS. */
    private static final class Turns {
        private final int[] given;
        /** Of each PAIR the set of earlier ones that can't have its turn. */
        private final int[] clashes;

        private Turns() {
            given = new int[MOST_PAIRS];
            clashes = new int[MOST_PAIRS];
        }

        /** Gives each PAIR its turn: how many turns. */
        private int arrange(World world) {
            for (int i = 0; i < world.pairs; i++) {
                clashes[i] = 0;
                for (int j = 0; j < i; j++) {
                    if (clash(world, i, j)) {
                        clashes[i] |= 1 << j;
                    }
                }
            }
            for (int limit = 0; limit <= world.pairs; limit++) {
                if (place(0, world.pairs, 0, limit)) {
                    return limit;
                }
            }
            return NONE;
        }

        private static boolean clash(World world, int i, int j) {
            int a = world.pairOnes[i];
            int b = world.pairOthers[i];
            int c = world.pairOnes[j];
            int d = world.pairOthers[j];
            if (a == c || a == d || b == c || b == d) {
                return true;
            }
            return world.hasHum(a) && world.hasHum(b) && world.hasHum(c) && world.hasHum(d)
                && world.wordOf(a, b) == world.wordOf(c, d);
        }

        /** Places the PAIRS from one on; a turn above the first unused one would never be the lesser way. */
        private boolean place(int pair, int pairs, int used, int limit) {
            if (pair >= pairs || pair >= MOST_PAIRS) {
                return true;
            }
            for (int turn = 1; turn <= limit && turn <= used + 1; turn++) {
                if (isFree(pair, turn)) {
                    given[pair] = turn;
                    if (place(pair + 1, pairs, Math.max(used, turn), limit)) {
                        return true;
                    }
                }
            }
            return false;
        }

        private boolean isFree(int pair, int turn) {
            for (int j = 0; j < pair; j++) {
                if ((clashes[pair] >> j & 1) == 1 && given[j] == turn) {
                    return false;
                }
            }
            return true;
        }
    }

    /** Rows of tones the WORDS between which are just TOLD. */
    private static final class Fitting {
        private final int[] first;
        private final int[] row;
        /** Of each WORD how often it is TOLD and not yet in the row. */
        private final int[] left;
        private int rows;

        private Fitting() {
            first = new int[MOST_MARKS];
            row = new int[MOST_MARKS];
            left = new int[HIGHEST_TOLD + 1];
        }

        private int countRows(int n, World world) {
            rows = 0;
            if (world.toldCount != n * (n - 1) / 2) {
                return 0;
            }
            Arrays.fill(left, 0);
            for (int i = 0; i < world.toldCount; i++) {
                left[world.told[i]]++;
            }
            row[0] = 0;
            extend(1, n);
            return rows;
        }

        private void extend(int placed, int n) {
            if (placed >= n || placed >= MOST_MARKS) {
                if (rows == 0) {
                    System.arraycopy(row, 0, first, 0, MOST_MARKS);
                }
                rows++;
                return;
            }
            for (int tone = row[placed - 1] + 1; tone <= HIGHEST_TOLD; tone++) {
                if (hasWordsFor(tone, placed)) {
                    row[placed] = tone;
                    changeLeft(tone, placed, -1);
                    extend(placed + 1, n);
                    changeLeft(tone, placed, 1);
                }
            }
        }

        private boolean hasWordsFor(int tone, int placed) {
            for (int i = 0; i < placed; i++) {
                if (left[tone - row[i]] == 0) {
                    return false;
                }
            }
            return true;
        }

        private void changeLeft(int tone, int placed, int by) {
            for (int i = 0; i < placed; i++) {
                left[tone - row[i]] += by;
            }
        }
    }

    /** The fewest tones between which each WORD of a set is. */
    private static final class Cover {
        private final int[] row;

        private Cover() {
            row = new int[MOST_FEWEST];
        }

        private int leastSize(int words) {
            row[0] = 0;
            for (int size = 1; size <= MOST_FEWEST; size++) {
                if (extend(1, size, 1 << HIGHEST_TOLD, words)) {
                    return size;
                }
            }
            return NONE;
        }

        /** mirror has bit 24 - t for each tone t of the row: 24 - tone places down it is the WORDS up to a tone. */
        private boolean extend(int placed, int size, int mirror, int missing) {
            if (placed >= size || placed >= MOST_FEWEST) {
                return missing == 0;
            }
            int couplesToCome = (size * (size - 1) - placed * (placed - 1)) / 2;
            if (Integer.bitCount(missing) > couplesToCome) {
                return false;
            }
            for (int tone = row[placed - 1] + 1; tone <= HIGHEST_TOLD; tone++) {
                row[placed] = tone;
                int down = HIGHEST_TOLD - tone;
                if (extend(placed + 1, size, mirror | 1 << down, missing & ~(mirror >>> down))) {
                    return true;
                }
            }
            return false;
        }
    }
}
