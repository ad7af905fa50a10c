import java.util.Arrays;

/** A spring that spouts; ../shared/DOC.md tells what each call promises. */
public final class SpoutSpring {
    public static final int NONE = -1;

    private static final int SHELVES = 4;
    private static final int MOST_BYTES = 900;
    private static final int MOST_LAW_BYTES = 300;
    private static final int MOST_ROOMS = 8;
    private static final int MOST_JOINS = 4;
    private static final int MOST_WIDE = 30;
    private static final int MOST_SECONDS = 1000;
    private static final int MOST_PLAYS = 200;
    private static final int MOST_SIGHTS = 60;
    private static final int MOST_LENGTH = 99;
    private static final int MOST_TIME = 999;
    private static final int MOST_ROWS = 4;
    private static final int MOST_LOGS = 40;
    private static final int LOGGED_SECONDS = 500;
    private static final int THREAD_SECONDS = 200;
    private static final int MOST_YEARS = 20;
    private static final int MOST_LED = 30;
    private static final int REFUSED = -2;

    private static final int NO_TOKEN = 1;
    private static final int MISPLACED = 2;
    private static final int TOLD_ALREADY = 3;
    private static final int BAD_NUMBER = 4;
    private static final int UNKNOWN_NAME = 5;
    private static final int BAD_PAIR = 6;

    /** The words that stand for themselves, a blank behind each; a token's kind is its word's place among them. */
    private static final String WORDS =
        "room neck pool depth holds wide hot cold up air join boil lift cool or and not above water warm ";
    private static final int NECK = 1;
    private static final int POOL = 2;
    private static final int DEPTH = 3;
    private static final int HOLDS = 4;
    private static final int WIDE = 5;
    private static final int HOT = 6;
    private static final int COLD = 7;
    private static final int UP = 8;
    private static final int AIR = 9;
    private static final int JOIN = 10;
    private static final int BOIL = 11;
    private static final int LIFT = 12;
    private static final int COOL = 13;
    private static final int OR = 14;
    private static final int AND = 15;
    private static final int NOT = 16;
    private static final int ABOVE = 17;
    private static final int WATER = 18;
    private static final int WARM = 19;
    private static final int END = 20;
    private static final int BAD = 21;
    private static final int NUMBER = 22;
    private static final int NAME = 23;
    /** A sign's kind is the sign itself, above all the kinds of words. */
    private static final String SIGNS = ";()<>=+-*/";

    private final int[] tape = new int[MOST_BYTES];
    private int tapeLength = 0;
    private final Tokens tokens = new Tokens();
    private final Course[] courses = new Course[SHELVES];
    private Spring spareSpring = new Spring();
    private Laws lawsNow = new Laws();
    private Laws spareLaws = new Laws();
    private int coldWarmth = 10;
    private int highGrains = 5;
    private final Trial trial = new Trial();
    private final Plays coursePlays = new Plays();
    private final Plays trialPlays = new Plays();
    private final Sights sights = new Sights();
    private final Board bestBoard = new Board();
    private final Logs logs = new Logs();
    private int shookShelf = NONE;
    private int shookRoom = NONE;
    private int shookWide = NONE;
    private int shookLogs = NONE;

    public SpoutSpring() {
        for (int shelf = 0; shelf < SHELVES; shelf++) {
            courses[shelf] = new Course();
        }
    }

    public int feed(int a, int b, int c, int d, int e) {
        if (tapeLength + 20 > MOST_BYTES) {
            return NONE;
        }
        writeBytes(a);
        writeBytes(b);
        writeBytes(c);
        writeBytes(d);
        writeBytes(e);
        return tapeLength;
    }

    public int end(int n) {
        if (n < 0 || n > tapeLength) {
            return NONE;
        }
        tapeLength = n;
        return n;
    }

    public int spring(int shelf) {
        if (!isShelf(shelf)) {
            return REFUSED;
        }
        tokens.begin(tape, tapeLength);
        tapeLength = 0;
        if (!spareSpring.readText(tokens)) {
            return NONE;
        }
        Course course = courses[shelf];
        Spring old = course.spring;
        course.spring = spareSpring;
        spareSpring = old;
        course.forget();
        shookShelf = NONE;
        return course.spring.rooms;
    }

    public int laws() {
        if (tapeLength > MOST_LAW_BYTES) {
            return REFUSED;
        }
        tokens.begin(tape, tapeLength);
        tapeLength = 0;
        if (!spareLaws.readText(tokens)) {
            return NONE;
        }
        Laws old = lawsNow;
        lawsNow = spareLaws;
        spareLaws = old;
        forgetCourses();
        return lawsNow.lines;
    }

    public int fault(int what) {
        if (what == 0) {
            return tokens.fault;
        }
        return what == 1 ? tokens.faultPlace : NONE;
    }

    public boolean cold(int warmth) {
        if (warmth < 0 || warmth > 99) {
            return false;
        }
        coldWarmth = warmth;
        forgetCourses();
        return true;
    }

    public boolean high(int grains) {
        if (grains < 1 || grains > 99) {
            return false;
        }
        highGrains = grains;
        shookShelf = NONE;
        return true;
    }

    public int room(int shelf, int n, int room, int what) {
        if (!isRoom(shelf, room) || n < 0 || n > MOST_SECONDS) {
            return NONE;
        }
        Course course = courseUpTo(shelf, n);
        switch (what) {
            case 0:
                return course.water[n * MOST_ROOMS + room];
            case 1:
                return course.warmth[n * MOST_ROOMS + room];
            case 2:
                return course.warmAt(n, room);
            case 3:
                return course.boilAt(lawsNow, n, room);
            default:
                return NONE;
        }
    }

    public int book(int shelf, int n, int what) {
        if (!isShelf(shelf) || n < 0 || n > MOST_SECONDS) {
            return NONE;
        }
        Course course = courseUpTo(shelf, n);
        switch (what) {
            case 0:
                return course.cameIn[n];
            case 1:
                return course.toAir[n];
            case 2:
                return course.steamed[n];
            case 3:
                return course.waterAt(n);
            case 4:
                return course.thrown[n];
            default:
                return NONE;
        }
    }

    public int plays(int shelf, int n) {
        if (!isShelf(shelf) || !isCourse(n)) {
            return NONE;
        }
        readCoursePlays(shelf, n);
        return coursePlays.count;
    }

    public int play(int shelf, int n, int i, int what) {
        if (!isShelf(shelf) || !isCourse(n) || i < 0) {
            return NONE;
        }
        readCoursePlays(shelf, n);
        if (i >= coursePlays.count) {
            return NONE;
        }
        switch (what) {
            case 0:
                return coursePlays.first[i];
            case 1:
                return coursePlays.length[i];
            case 2:
                return coursePlays.greatest[i];
            case 3:
                return i == 0 ? NONE : coursePlays.first[i] - coursePlays.first[i - 1] - coursePlays.length[i - 1];
            default:
                return NONE;
        }
    }

    public int sight(int length, int wait) {
        if (length < 1 || length > MOST_LENGTH || wait < 0 || wait > MOST_TIME) {
            return NONE;
        }
        bestBoard.forget();
        return sights.tell(length, wait);
    }

    public boolean untell(int sight) {
        bestBoard.forget();
        return sights.takeBack(sight);
    }

    public int later(int by) {
        if (by < 0 || by > 1000 || sights.time + by > 100000) {
            return NONE;
        }
        sights.time += by;
        return sights.time;
    }

    public int span(int classes, int share, int k) {
        if (!isBoard(classes, share)) {
            return NONE;
        }
        bestBoard.find(sights, classes, share, k);
        return bestBoard.span;
    }

    public int board(int classes, int share, int length, int k) {
        if (!isBoard(classes, share) || length < 1 || length > MOST_LENGTH) {
            return NONE;
        }
        bestBoard.find(sights, classes, share, k);
        return bestBoard.count == 0 ? NONE : bestBoard.timeFor(length);
    }

    public int log(int from, int to, boolean played) {
        if (from < 1 || to > LOGGED_SECONDS || from > to) {
            return NONE;
        }
        shookShelf = NONE;
        return logs.tell(from, to, played);
    }

    public int clear() {
        int were = logs.count;
        logs.count = 0;
        shookShelf = NONE;
        return were;
    }

    public int fits() {
        int fitting = 0;
        for (int shelf = 0; shelf < SHELVES; shelf++) {
            int[] thrown = courseUpTo(shelf, LOGGED_SECONDS).thrown;
            if (logs.countAlike(thrown, highGrains) == logs.count) {
                fitting |= 1 << shelf;
            }
        }
        return fitting;
    }

    public int thread(int shelves, int what) {
        if (shelves < 0 || shelves >= 1 << SHELVES || what < 0 || what > 2) {
            return NONE;
        }
        for (int shelf = 0; shelf < SHELVES; shelf++) {
            courseUpTo(shelf, THREAD_SECONDS);
        }
        int most = 1;
        int second = NONE;
        int room = NONE;
        for (int s = 1; s <= THREAD_SECONDS; s++) {
            for (int r = 0; r < MOST_ROOMS; r++) {
                int values = countWarms(shelves, s, r);
                if (values > most) {
                    most = values;
                    second = s;
                    room = r;
                }
            }
        }
        if (room == NONE) {
            return NONE;
        }
        if (what == 2) {
            return most;
        }
        return what == 0 ? room : second;
    }

    public int shook(int shelf, int what) {
        if (!isShelf(shelf) || what < 0 || what > 2) {
            return NONE;
        }
        if (shookShelf != shelf) {
            shake(shelf);
        }
        if (what == 2) {
            return shookLogs;
        }
        return what == 0 ? shookRoom : shookWide;
    }

    public int stolen(int shelf, int n) {
        if (!isShelf(shelf) || !isCourse(n)) {
            return -1000;
        }
        readCoursePlays(shelf, n);
        beginTrial(shelf);
        trial.flow.joined = false;
        readTrialPlays(1, n);
        return trialPlays.count - coursePlays.count;
    }

    public int years(int shelf, int n) {
        if (!isShelf(shelf) || n < 1 || n > 100) {
            return NONE;
        }
        beginTrial(shelf);
        boolean playing = false;
        for (int year = 1; year <= MOST_YEARS; year++) {
            boolean begun = false;
            for (int s = 1; s <= n; s++) {
                trial.flow.passSecond();
                boolean plays = trial.flow.thrown >= highGrains;
                begun = begun || plays && !playing;
                playing = plays;
            }
            if (!begun) {
                return year;
            }
            trial.flow.narrowNecks();
        }
        return NONE;
    }

    public int led(int shelf, int room, int plays, int n) {
        if (!isRoom(shelf, room) || plays < 1 || plays > 99 || !isCourse(n)) {
            return NONE;
        }
        int holds = courses[shelf].spring.holds[room];
        // More than the room holds takes what it holds, so those numbers need no course of their own.
        for (int grains = MOST_LED; grains >= 0; grains = Math.min(grains, holds) - 1) {
            beginTrial(shelf);
            trial.flow.ledRoom = room;
            trial.flow.ledGrains = grains;
            readTrialPlays(1, n);
            if (trialPlays.count >= plays) {
                return grains;
            }
        }
        return NONE;
    }

    public int ring(int shelf, int n, int what) {
        if (!isShelf(shelf) || !isCourse(n) || what < 0 || what > 1) {
            return NONE;
        }
        Course course = courseUpTo(shelf, n);
        int length = course.ringBehind(n);
        if (length == NONE || what == 1) {
            return length;
        }
        return course.ringStart(n, length);
    }

    public int parts(int shelf, int room, int warmth, int n) {
        if (!isRoom(shelf, room) || warmth < 1 || warmth > 999 || !isCourse(n)) {
            return NONE;
        }
        readCoursePlays(shelf, n);
        beginTrial(shelf);
        trial.goOn(1, 1);
        trial.flow.warmth[room] += warmth;
        readTrialPlays(2, n);
        int most = Math.max(coursePlays.count, trialPlays.count);
        for (int i = 0; i < most; i++) {
            if (i >= coursePlays.count || i >= trialPlays.count || coursePlays.first[i] != trialPlays.first[i]) {
                return i + 1;
            }
        }
        return NONE;
    }

    public int gap(int g, int a, int b, int c, int d, int what) {
        if (g < 0 || g > 2000 || !isStretch(a, b) || !isStretch(c, d) || what < 0 || what > 1) {
            return NONE;
        }
        int found = NONE;
        for (int plays = 0; plays <= g; plays++) {
            boolean fills = (plays + 1) * a + plays * c <= g && (plays + 1) * b + plays * d >= g;
            if (fills && (what == 1 || found == NONE)) {
                found = plays;
            }
        }
        return found;
    }

    public int about(int what) {
        if (what >= 0 && what < SHELVES) {
            return courses[what].spring.rooms;
        }
        if (what >= SHELVES && what < 2 * SHELVES) {
            return courses[what - SHELVES].spring.joins;
        }
        switch (what) {
            case 8:
                return lawsNow.lines;
            case 9:
                return sights.count;
            case 10:
                return logs.count;
            case 11:
                return sights.time;
            case 12:
                return tapeLength;
            default:
                return NONE;
        }
    }

    private void writeBytes(int four) {
        for (int shift = 24; shift >= 0 && tapeLength < MOST_BYTES; shift -= 8) {
            tape[tapeLength] = four >>> shift & 255;
            tapeLength++;
        }
    }

    private static boolean isShelf(int shelf) {
        return shelf >= 0 && shelf < SHELVES;
    }

    private boolean isRoom(int shelf, int room) {
        return isShelf(shelf) && room >= 0 && room < courses[shelf].spring.rooms;
    }

    private static boolean isCourse(int n) {
        return n >= 1 && n <= MOST_SECONDS;
    }

    private static boolean isBoard(int classes, int share) {
        return classes >= 1 && classes <= MOST_ROWS && share >= 0 && share <= 100;
    }

    private static boolean isStretch(int least, int most) {
        return least >= 1 && most <= 999 && least <= most;
    }

    private static int warmOf(int water, int warmth) {
        return water > 0 ? warmth / water : 0;
    }

    /** What is true of all the shelves has changed: no course that was gone through stands any more. */
    private void forgetCourses() {
        for (int shelf = 0; shelf < SHELVES; shelf++) {
            courses[shelf].forget();
        }
        shookShelf = NONE;
    }

    private Course courseUpTo(int shelf, int n) {
        courses[shelf].goOn(lawsNow, coldWarmth, n);
        return courses[shelf];
    }

    private void readCoursePlays(int shelf, int n) {
        courses[shelf].goOn(lawsNow, coldWarmth, n);
        coursePlays.readRow(courses[shelf].thrown, n, highGrains);
    }

    private void beginTrial(int shelf) {
        trial.flow.begin(courses[shelf].spring, lawsNow, coldWarmth);
    }

    private void readTrialPlays(int first, int n) {
        trial.goOn(first, n);
        trialPlays.readRow(trial.thrown, n, highGrains);
    }

    private int countWarms(int shelves, int second, int room) {
        int values = 0;
        for (int shelf = 0; shelf < SHELVES; shelf++) {
            if ((shelves >> shelf & 1) == 0) {
                continue;
            }
            int warm = courses[shelf].warmAt(second, room);
            boolean seen = false;
            for (int other = 0; other < shelf; other++) {
                seen = seen || (shelves >> other & 1) != 0 && courses[other].warmAt(second, room) == warm;
            }
            if (!seen) {
                values++;
            }
        }
        return values;
    }

    private void shake(int shelf) {
        shookShelf = shelf;
        shookRoom = NONE;
        shookWide = NONE;
        shookLogs = NONE;
        courses[shelf].goOn(lawsNow, coldWarmth, LOGGED_SECONDS);
        int most = logs.countAlike(courses[shelf].thrown, highGrains);
        int rooms = courses[shelf].spring.rooms;
        for (int room = 0; room < rooms; room++) {
            int own = courses[shelf].spring.wide[room];
            int free = MOST_WIDE + 1;
            // Its own less 1, plus 1, less 2, plus 2 ..: the nearest first, of two as near the lesser.
            for (int step = 2; step <= 2 * MOST_WIDE + 1 && most < logs.count; step++) {
                int wide = step % 2 == 0 ? own - step / 2 : own + step / 2;
                // All wides that never held anything back let the same course pass.
                if (wide < 0 || wide > MOST_WIDE || wide >= free) {
                    continue;
                }
                beginTrial(shelf);
                trial.flow.wide[room] = wide;
                trial.goOn(1, LOGGED_SECONDS);
                if (trial.flow.needed[room] <= wide) {
                    free = trial.flow.needed[room];
                }
                int alike = logs.countAlike(trial.thrown, highGrains);
                if (alike > most) {
                    most = alike;
                    shookRoom = room;
                    shookWide = wide;
                    shookLogs = alike;
                }
            }
        }
    }

    /** Parts a text to tokens, one at a time, and keeps the first fault. */
    private static final class Tokens {
        private int[] text = new int[0];
        private int length = 0;
        private int at = 0;
        int kind = END;
        int place = 0;
        int number = 0;
        long name = 0;
        int fault = 0;
        int faultPlace = NONE;

        void begin(int[] newText, int newLength) {
            text = newText;
            length = Math.min(newLength, newText.length);
            at = 0;
            fault = 0;
            faultPlace = NONE;
            goNext();
        }

        void goNext() {
            while (at < length && (text[at] == 32 || text[at] == 10)) {
                at++;
            }
            place = at;
            if (at >= length) {
                kind = END;
            } else if (isLetter(text[at])) {
                readWord();
                kind = at - place > 8 ? BAD : kindOfWord();
            } else if (isDigit(text[at])) {
                readNumber();
            } else {
                kind = SIGNS.indexOf((char) text[at]) >= 0 ? text[at] : BAD;
                at++;
            }
        }

        /** Always false, so that a reader can hand it on. */
        boolean refuse(int what) {
            fault = kind == BAD ? NO_TOKEN : what;
            faultPlace = place;
            return false;
        }

        boolean take(int wanted) {
            if (kind != wanted) {
                return refuse(MISPLACED);
            }
            goNext();
            return true;
        }

        /** A word and the number behind it, which goes to its place in a row. */
        boolean takeTold(int word, int least, int most, int[] row, int i) {
            if (kind != word) {
                return refuse(MISPLACED);
            }
            goNext();
            if (kind != NUMBER) {
                return refuse(MISPLACED);
            }
            if (number < least || number > most) {
                return refuse(BAD_NUMBER);
            }
            if (i >= 0 && i < row.length) {
                row[i] = number;
            }
            goNext();
            return true;
        }

        private static boolean isLetter(int sign) {
            return sign >= 'a' && sign <= 'z';
        }

        private static boolean isDigit(int sign) {
            return sign >= '0' && sign <= '9';
        }

        private void readWord() {
            name = 0;
            while (at < length && isLetter(text[at])) {
                name = name * 27 + text[at] - 'a' + 1;
                at++;
            }
        }

        private void readNumber() {
            number = 0;
            while (at < length && isDigit(text[at])) {
                number = number * 10 + text[at] - '0';
                at++;
            }
            boolean letterBehind = at < length && isLetter(text[at]);
            kind = at - place > 4 || letterBehind ? BAD : NUMBER;
        }

        private int kindOfWord() {
            int word = 0;
            int here = place;
            boolean same = true;
            for (int i = 0; i < WORDS.length(); i++) {
                int sign = WORDS.charAt(i);
                if (sign != ' ') {
                    same = same && here < at && text[here] == sign;
                    here++;
                } else if (same && here == at) {
                    return word;
                } else {
                    word++;
                    here = place;
                    same = true;
                }
            }
            return NAME;
        }
    }

    /** A spring as its text tells it. */
    private static final class Spring {
        int rooms = 0;
        int joins = 0;
        final int[] kind = new int[MOST_ROOMS];
        final long[] name = new long[MOST_ROOMS];
        final int[] depth = new int[MOST_ROOMS];
        final int[] holds = new int[MOST_ROOMS];
        final int[] wide = new int[MOST_ROOMS];
        final int[] hot = new int[MOST_ROOMS];
        final int[] cold = new int[MOST_ROOMS];
        /** The room above, always of a lower number, or NONE for the air. */
        final int[] up = new int[MOST_ROOMS];
        final int[] joinOne = new int[MOST_JOINS];
        final int[] joinOther = new int[MOST_JOINS];
        final int[] joinWide = new int[MOST_JOINS];

        boolean readText(Tokens tokens) {
            rooms = 0;
            joins = 0;
            // One line more than there can be: that one is refused at its first word.
            for (int line = 0; line <= MOST_ROOMS + MOST_JOINS && tokens.kind != END; line++) {
                boolean stands;
                if (tokens.kind <= POOL && rooms < MOST_ROOMS) {
                    stands = readRoom(tokens);
                } else if (tokens.kind == JOIN && joins < MOST_JOINS) {
                    stands = readJoin(tokens);
                } else {
                    stands = tokens.refuse(MISPLACED);
                }
                if (!stands) {
                    return false;
                }
            }
            return true;
        }

        private boolean readRoom(Tokens tokens) {
            kind[rooms] = tokens.kind;
            tokens.goNext();
            if (tokens.kind != NAME) {
                return tokens.refuse(MISPLACED);
            }
            if (findRoom(tokens.name) != NONE) {
                return tokens.refuse(TOLD_ALREADY);
            }
            name[rooms] = tokens.name;
            tokens.goNext();
            if (!readNumbers(tokens) || !readUp(tokens) || !tokens.take(';')) {
                return false;
            }
            rooms++;
            return true;
        }

        private boolean readNumbers(Tokens tokens) {
            return tokens.takeTold(DEPTH, 0, 60, depth, rooms)
                && tokens.takeTold(HOLDS, 1, 99, holds, rooms)
                && tokens.takeTold(WIDE, 0, MOST_WIDE, wide, rooms)
                && tokens.takeTold(HOT, 0, 999, hot, rooms)
                && tokens.takeTold(COLD, 0, 30, cold, rooms);
        }

        private boolean readUp(Tokens tokens) {
            if (!tokens.take(UP)) {
                return false;
            }
            if (tokens.kind == AIR) {
                up[rooms] = NONE;
                tokens.goNext();
                return true;
            }
            if (tokens.kind != NAME) {
                return tokens.refuse(MISPLACED);
            }
            int above = findRoom(tokens.name);
            if (above == NONE) {
                return tokens.refuse(UNKNOWN_NAME);
            }
            if (depth[above] >= depth[rooms]) {
                return tokens.refuse(BAD_PAIR);
            }
            up[rooms] = above;
            tokens.goNext();
            return true;
        }

        private boolean readJoin(Tokens tokens) {
            tokens.goNext();
            if (!readJoined(tokens, joinOne, NONE)) {
                return false;
            }
            if (!readJoined(tokens, joinOther, joinOne[joins])) {
                return false;
            }
            if (!tokens.takeTold(WIDE, 0, MOST_WIDE, joinWide, joins) || !tokens.take(';')) {
                return false;
            }
            joins++;
            return true;
        }

        private boolean readJoined(Tokens tokens, int[] row, int first) {
            if (tokens.kind != NAME) {
                return tokens.refuse(MISPLACED);
            }
            int room = findRoom(tokens.name);
            if (room == NONE) {
                return tokens.refuse(UNKNOWN_NAME);
            }
            if (room == first) {
                return tokens.refuse(BAD_PAIR);
            }
            row[joins] = room;
            tokens.goNext();
            return true;
        }

        private int findRoom(long wanted) {
            for (int room = 0; room < rooms; room++) {
                if (name[room] == wanted) {
                    return room;
                }
            }
            return NONE;
        }
    }

    /** The laws as their text tells them, each as a code that works on a stack. */
    private static final class Laws {
        private static final int MOST_UNITS = 40;
        private static final int MOST_OTHERS = 6;

        int lines = 0;
        private int units = 0;
        /** A number is itself; all else is the token's kind, below 0. */
        private final int[] code = new int[MOST_LAW_BYTES];
        private int length = 0;
        private final int[] start = new int[3];
        private final int[] end = new int[3];
        private final int[] stack = new int[MOST_UNITS + 1];

        boolean readText(Tokens tokens) {
            lines = 0;
            units = 0;
            length = 0;
            Arrays.fill(end, 0);
            // One line more than there can be: that one is refused at its first word.
            for (int line = 0; line <= 3 && tokens.kind != END; line++) {
                if (tokens.kind < BOIL || tokens.kind > COOL || end[tokens.kind - BOIL] > 0) {
                    return tokens.refuse(MISPLACED);
                }
                int law = tokens.kind - BOIL;
                tokens.goNext();
                start[law] = length;
                if (!readEither(tokens, 0) || !tokens.take(';')) {
                    return false;
                }
                end[law] = length;
                lines++;
            }
            return true;
        }

        int boil(int depth, int above, int water, int warm) {
            int asked = end[0] > 0 ? work(0, depth, above, water, warm) : 100 + above;
            return Math.max(1, Math.min(999, asked));
        }

        int lift(int depth, int above, int water, int warm) {
            int asked = end[1] > 0 ? work(1, depth, above, water, warm) : 2;
            return Math.max(0, Math.min(30, asked));
        }

        int cool(int depth, int above, int water, int warm) {
            int asked = end[2] > 0 ? work(2, depth, above, water, warm) : 0;
            return Math.max(0, Math.min(999, asked));
        }

        /** e; nest is how many units ( e ) and ones behind not it is within. */
        private boolean readEither(Tokens tokens, int nest) {
            boolean stands = readBoth(tokens, nest);
            for (int more = 0; more < MOST_UNITS && stands && tokens.kind == OR; more++) {
                tokens.goNext();
                stands = readBoth(tokens, nest);
                write(-OR);
            }
            return stands;
        }

        private boolean readBoth(Tokens tokens, int nest) {
            boolean stands = readOne(tokens, nest);
            for (int more = 0; more < MOST_UNITS && stands && tokens.kind == AND; more++) {
                tokens.goNext();
                stands = readOne(tokens, nest);
                write(-AND);
            }
            return stands;
        }

        private boolean readOne(Tokens tokens, int nest) {
            if (tokens.kind == NOT) {
                if (nest > MOST_OTHERS) {
                    return tokens.refuse(MISPLACED);
                }
                tokens.goNext();
                boolean stands = readOne(tokens, nest + 1);
                write(-NOT);
                return stands;
            }
            if (!readSum(tokens, nest)) {
                return false;
            }
            int relation = tokens.kind;
            if (relation != '<' && relation != '>' && relation != '=') {
                return true;
            }
            tokens.goNext();
            boolean stands = readSum(tokens, nest);
            write(-relation);
            return stands;
        }

        private boolean readSum(Tokens tokens, int nest) {
            boolean stands = readTerm(tokens, nest);
            for (int more = 0; more < MOST_UNITS && stands && (tokens.kind == '+' || tokens.kind == '-'); more++) {
                int sign = tokens.kind;
                tokens.goNext();
                stands = readTerm(tokens, nest);
                write(-sign);
            }
            return stands;
        }

        private boolean readTerm(Tokens tokens, int nest) {
            boolean stands = readUnit(tokens, nest);
            for (int more = 0; more < MOST_UNITS && stands && (tokens.kind == '*' || tokens.kind == '/'); more++) {
                int sign = tokens.kind;
                tokens.goNext();
                stands = readUnit(tokens, nest);
                write(-sign);
            }
            return stands;
        }

        private boolean readUnit(Tokens tokens, int nest) {
            int kind = tokens.kind;
            boolean named = kind == DEPTH || kind == ABOVE || kind == WATER || kind == WARM;
            boolean nested = kind == '(' && nest <= MOST_OTHERS;
            if (units >= MOST_UNITS || !named && !nested && kind != NUMBER) {
                return tokens.refuse(MISPLACED);
            }
            units++;
            if (!nested) {
                write(named ? -kind : tokens.number);
            }
            tokens.goNext();
            return !nested || readEither(tokens, nest + 1) && tokens.take(')');
        }

        private void write(int step) {
            if (length < code.length) {
                code[length] = step;
                length++;
            }
        }

        private int work(int law, int depth, int above, int water, int warm) {
            int top = 0;
            for (int i = start[law]; i < end[law]; i++) {
                int step = code[i];
                if (step == -NOT) {
                    stack[top] = stack[top] == 0 ? 1 : 0;
                } else if (step >= 0) {
                    top = Math.min(top + 1, MOST_UNITS);
                    stack[top] = step;
                } else if (step == -DEPTH || step <= -ABOVE && step >= -WARM) {
                    top = Math.min(top + 1, MOST_UNITS);
                    stack[top] = named(-step, depth, above, water, warm);
                } else {
                    top = Math.max(top - 1, 0);
                    stack[top] = worth(-step, stack[top], stack[top + 1]);
                }
            }
            return stack[top];
        }

        private static int named(int kind, int depth, int above, int water, int warm) {
            switch (kind) {
                case DEPTH:
                    return depth;
                case ABOVE:
                    return above;
                case WATER:
                    return water;
                default:
                    return warm;
            }
        }

        private static int worth(int kind, int left, int right) {
            switch (kind) {
                case '*':
                    return left * right;
                case '/':
                    return right == 0 ? 0 : left / right;
                case '+':
                    return left + right;
                case '-':
                    return left - right;
                case '<':
                    return left < right ? 1 : 0;
                case '>':
                    return left > right ? 1 : 0;
                case '=':
                    return left == right ? 1 : 0;
                case AND:
                    return left != 0 && right != 0 ? 1 : 0;
                default:
                    return left != 0 || right != 0 ? 1 : 0;
            }
        }
    }

    /** The water and the warmth of a spring, second by second. */
    private static final class Flow {
        private Spring spring = new Spring();
        private Laws laws = new Laws();
        private int coldWarmth = 0;
        final int[] water = new int[MOST_ROOMS];
        final int[] warmth = new int[MOST_ROOMS];
        final int[] wide = new int[MOST_ROOMS];
        /** The widest that each room would have had to be to hold nothing back. */
        final int[] needed = new int[MOST_ROOMS];
        private final int[] above = new int[MOST_ROOMS];
        private final int[] boil = new int[MOST_ROOMS];
        private final int[] lift = new int[MOST_ROOMS];
        private final int[] cool = new int[MOST_ROOMS];
        private final int[] steam = new int[MOST_ROOMS];
        boolean joined = true;
        int ledRoom = NONE;
        int ledGrains = 0;
        int thrown = 0;
        int cameIn = 0;
        int toAir = 0;
        int steamed = 0;

        /** All empty, the wides and the joins as they are told, and nothing led away. */
        void begin(Spring newSpring, Laws newLaws, int newCold) {
            spring = newSpring;
            laws = newLaws;
            coldWarmth = newCold;
            Arrays.fill(water, 0);
            Arrays.fill(warmth, 0);
            Arrays.fill(needed, 0);
            System.arraycopy(newSpring.wide, 0, wide, 0, MOST_ROOMS);
            joined = true;
            ledRoom = NONE;
            ledGrains = 0;
            thrown = 0;
            cameIn = 0;
            toAir = 0;
            steamed = 0;
        }

        void passSecond() {
            thrown = 0;
            askCool();
            fill();
            if (joined) {
                level();
            }
            spout();
            emptyPools();
            if (ledRoom >= 0 && ledRoom < spring.rooms) {
                lose(ledRoom, Math.min(ledGrains, water[ledRoom]));
            }
        }

        void narrowNecks() {
            for (int room = 0; room < spring.rooms; room++) {
                if (spring.kind[room] == NECK) {
                    wide[room] = Math.max(0, wide[room] - 1);
                }
            }
        }

        private void weighAbove() {
            for (int room = 0; room < spring.rooms; room++) {
                int up = spring.up[room];
                above[room] = up < 0 ? 0 : water[up] + above[up];
            }
        }

        /** COOL hangs on what the second ahead left, before any water comes in. */
        private void askCool() {
            weighAbove();
            for (int room = 0; room < spring.rooms; room++) {
                int warm = warmOf(water[room], warmth[room]);
                cool[room] = laws.cool(spring.depth[room], above[room], water[room], warm);
            }
        }

        private void fill() {
            for (int room = 0; room < spring.rooms; room++) {
                int grains = Math.min(spring.cold[room], spring.holds[room] - water[room]);
                cameIn += grains;
                water[room] += grains;
                warmth[room] += grains * coldWarmth;
                if (water[room] > 0) {
                    warmth[room] += spring.hot[room];
                }
                warmth[room] = Math.max(0, warmth[room] - cool[room]);
            }
        }

        private void level() {
            for (int join = 0; join < spring.joins; join++) {
                int from = spring.joinOne[join];
                int to = spring.joinOther[join];
                if (water[from] < water[to]) {
                    from = to;
                    to = spring.joinOne[join];
                }
                int most = Math.min(spring.joinWide[join], spring.holds[to] - water[to]);
                int grains = Math.min(most, (water[from] - water[to]) / 2);
                warmth[to] += lose(from, grains);
                water[to] += grains;
            }
        }

        private void spout() {
            weighAbove();
            int rooms = spring.rooms;
            for (int room = 0; room < rooms; room++) {
                int warm = warmOf(water[room], warmth[room]);
                boil[room] = laws.boil(spring.depth[room], above[room], water[room], warm);
                lift[room] = laws.lift(spring.depth[room], above[room], water[room], warm);
                int beyond = Math.max(0, warmth[room] - boil[room] * water[room]);
                steam[room] = Math.min(water[room], beyond / 50);
            }
            for (int room = rooms - 1; room >= 0; room--) {
                int grains = Math.min(steam[room], water[room]);
                water[room] -= grains;
                warmth[room] = Math.max(0, warmth[room] - (boil[room] + 50) * grains);
                steamed += grains;
                throwUp(room, lift[room] * grains);
            }
        }

        private void throwUp(int room, int many) {
            int giver = spring.up[room];
            for (int step = 0; step < MOST_ROOMS && giver >= 0 && many > 0; step++) {
                int taker = spring.up[giver];
                int free = Math.min(many, water[giver]);
                needed[giver] = Math.max(needed[giver], free);
                int given = Math.min(free, wide[giver]);
                int share = lose(giver, given);
                int taken = taker < 0 ? 0 : Math.min(given, spring.holds[taker] - water[taker]);
                if (taken > 0) {
                    water[taker] += taken;
                    warmth[taker] += (int) ((long) share * taken / given);
                }
                thrown += given - taken;
                toAir += given - taken;
                giver = taker;
            }
        }

        private void emptyPools() {
            for (int room = 0; room < spring.rooms; room++) {
                if (spring.kind[room] == POOL && water[room] >= spring.holds[room]) {
                    int grains = water[room] - spring.holds[room] / 2;
                    lose(room, grains);
                    toAir += grains;
                }
            }
        }

        /** A room loses grains with their share of its warmth, which is the answer. */
        private int lose(int room, int grains) {
            if (grains <= 0 || water[room] <= 0) {
                return 0;
            }
            int share = (int) ((long) warmth[room] * grains / water[room]);
            water[room] -= grains;
            warmth[room] -= share;
            return share;
        }
    }

    /** A spring on its shelf, and all that its seconds left as far as they were asked for. */
    private static final class Course {
        Spring spring = new Spring();
        private final Flow flow = new Flow();
        final int[] water = new int[(MOST_SECONDS + 1) * MOST_ROOMS];
        final int[] warmth = new int[(MOST_SECONDS + 1) * MOST_ROOMS];
        final int[] thrown = new int[MOST_SECONDS + 1];
        final int[] cameIn = new int[MOST_SECONDS + 1];
        final int[] toAir = new int[MOST_SECONDS + 1];
        final int[] steamed = new int[MOST_SECONDS + 1];
        private int upTo = NONE;

        void forget() {
            upTo = NONE;
        }

        void goOn(Laws laws, int coldWarmth, int n) {
            if (upTo == NONE) {
                flow.begin(spring, laws, coldWarmth);
                keep(0);
            }
            for (int second = upTo + 1; second <= n && second <= MOST_SECONDS; second++) {
                flow.passSecond();
                keep(second);
            }
        }

        int warmAt(int second, int room) {
            int i = second * MOST_ROOMS + room;
            return warmOf(water[i], warmth[i]);
        }

        int boilAt(Laws laws, int second, int room) {
            int above = 0;
            int over = spring.up[room];
            for (int step = 0; step < MOST_ROOMS && over >= 0; step++) {
                above += water[second * MOST_ROOMS + over];
                over = spring.up[over];
            }
            int grains = water[second * MOST_ROOMS + room];
            return laws.boil(spring.depth[room], above, grains, warmAt(second, room));
        }

        int waterAt(int second) {
            int grains = 0;
            for (int room = 0; room < spring.rooms; room++) {
                grains += water[second * MOST_ROOMS + room];
            }
            return grains;
        }

        /** What second n left comes again only if all has gone round: so its way back is the ring's length. */
        int ringBehind(int n) {
            for (int length = 1; length <= n; length++) {
                if (isAlike(n, n - length)) {
                    return length;
                }
            }
            return NONE;
        }

        int ringStart(int n, int length) {
            for (int first = 0; first + length < n; first++) {
                if (isAlike(first, first + length)) {
                    return first;
                }
            }
            return n - length;
        }

        private boolean isAlike(int second, int other) {
            for (int room = 0; room < spring.rooms; room++) {
                int i = second * MOST_ROOMS + room;
                int j = other * MOST_ROOMS + room;
                if (water[i] != water[j] || warmth[i] != warmth[j]) {
                    return false;
                }
            }
            return true;
        }

        private void keep(int second) {
            System.arraycopy(flow.water, 0, water, second * MOST_ROOMS, MOST_ROOMS);
            System.arraycopy(flow.warmth, 0, warmth, second * MOST_ROOMS, MOST_ROOMS);
            thrown[second] = flow.thrown;
            cameIn[second] = flow.cameIn;
            toAir[second] = flow.toAir;
            steamed[second] = flow.steamed;
            upTo = second;
        }
    }

    /** A course that is only tried: what its seconds threw. */
    private static final class Trial {
        final Flow flow = new Flow();
        final int[] thrown = new int[MOST_SECONDS + 1];
        private final int[] markWater = new int[MOST_ROOMS];
        private final int[] markWarmth = new int[MOST_ROOMS];

        /** Goes on to second n, but stops as soon as all comes again: what is thrown is known from there on. */
        void goOn(int first, int n) {
            int mark = first - 1;
            int reach = 1;
            setMark();
            for (int second = first; second <= n; second++) {
                flow.passSecond();
                thrown[second] = flow.thrown;
                if (isAtMark()) {
                    repeat(second - mark, second, n);
                    return;
                }
                if (second - mark == reach) {
                    mark = second;
                    reach *= 2;
                    setMark();
                }
            }
        }

        private void repeat(int ring, int known, int n) {
            for (int second = known + 1; second <= n; second++) {
                thrown[second] = thrown[second - ring];
            }
        }

        private void setMark() {
            System.arraycopy(flow.water, 0, markWater, 0, MOST_ROOMS);
            System.arraycopy(flow.warmth, 0, markWarmth, 0, MOST_ROOMS);
        }

        private boolean isAtMark() {
            for (int room = 0; room < MOST_ROOMS; room++) {
                if (flow.water[room] != markWater[room] || flow.warmth[room] != markWarmth[room]) {
                    return false;
                }
            }
            return true;
        }
    }

    /** The plays of a course. */
    private static final class Plays {
        final int[] first = new int[MOST_PLAYS];
        final int[] length = new int[MOST_PLAYS];
        final int[] greatest = new int[MOST_PLAYS];
        int count = 0;

        void readRow(int[] thrown, int n, int high) {
            count = 0;
            boolean playing = false;
            for (int second = 1; second <= n; second++) {
                boolean plays = thrown[second] >= high;
                if (plays && !playing) {
                    if (count == MOST_PLAYS) {
                        return;
                    }
                    first[count] = second;
                    length[count] = 0;
                    greatest[count] = 0;
                    count++;
                }
                if (plays && count > 0) {
                    length[count - 1]++;
                    greatest[count - 1] = Math.max(greatest[count - 1], thrown[second]);
                }
                playing = plays;
            }
        }
    }

    /** The sights, and when each was told and untold. */
    private static final class Sights {
        int time = 0;
        int count = 0;
        final int[] length = new int[MOST_SIGHTS];
        final int[] wait = new int[MOST_SIGHTS];
        private final int[] told = new int[MOST_SIGHTS];
        private final int[] untold = new int[MOST_SIGHTS];

        int tell(int newLength, int newWait) {
            if (count >= MOST_SIGHTS) {
                return NONE;
            }
            length[count] = newLength;
            wait[count] = newWait;
            told[count] = time;
            untold[count] = NONE;
            count++;
            return count - 1;
        }

        boolean takeBack(int sight) {
            if (sight < 0 || sight >= count || untold[sight] != NONE) {
                return false;
            }
            untold[sight] = time;
            return true;
        }

        boolean isKnown(int sight, int k) {
            return told[sight] <= k && (untold[sight] == NONE || untold[sight] > k);
        }
    }

    /** The best board for a number of rows, a share and a time k. */
    private static final class Board {
        int span = 0;
        int count = 0;
        private boolean found = false;
        private int rows = 0;
        private int share = 0;
        private int known = 0;
        /** The sights that count, by their waits. */
        private final int[] length = new int[MOST_SIGHTS];
        private final int[] wait = new int[MOST_SIGHTS];
        private final boolean[] seen = new boolean[MOST_LENGTH + 1];
        /** The most that one row hits, by its first and its last length. */
        private final int[][] hits = new int[MOST_LENGTH + 1][MOST_LENGTH + 1];
        /** The most that so many rows hit from a length on. */
        private final int[][] behind = new int[MOST_ROWS + 1][MOST_LENGTH + 2];
        private final int[] start = new int[MOST_ROWS];
        private final int[] time = new int[MOST_ROWS];

        void forget() {
            found = false;
        }

        void find(Sights sights, int newRows, int newShare, int k) {
            if (found && newRows == rows && newShare == share && k == known) {
                return;
            }
            found = true;
            rows = newRows;
            share = newShare;
            known = k;
            gather(sights);
            int low = 0;
            // A time in the middle is no further from any wait.
            int high = (MOST_TIME + 1) / 2;
            for (int step = 0; step < 20 && low < high && count > 0; step++) {
                int middle = (low + high) / 2;
                weigh(middle);
                if (behind[rows][1] * 100 >= share * count) {
                    high = middle;
                } else {
                    low = middle + 1;
                }
            }
            span = count > 0 ? high : 0;
            weigh(span);
            placeRows();
        }

        int timeFor(int wanted) {
            int row = 0;
            for (int next = 1; next < rows; next++) {
                if (start[next] <= wanted) {
                    row = next;
                }
            }
            return time[row];
        }

        private void gather(Sights sights) {
            count = 0;
            for (int one = 0; one <= MOST_LENGTH; one++) {
                seen[one] = false;
            }
            for (int sight = 0; sight < sights.count; sight++) {
                if (sights.isKnown(sight, known)) {
                    insert(sights.length[sight], sights.wait[sight]);
                }
            }
        }

        private void insert(int newLength, int newWait) {
            int at = count;
            while (at > 0 && wait[at - 1] > newWait) {
                wait[at] = wait[at - 1];
                length[at] = length[at - 1];
                at--;
            }
            wait[at] = newWait;
            length[at] = newLength;
            seen[newLength] = true;
            count++;
        }

        private void weigh(int reach) {
            for (int from = MOST_LENGTH; from >= 1; from--) {
                for (int to = from; to <= MOST_LENGTH; to++) {
                    if (seen[from] && seen[to]) {
                        hits[from][to] = countMost(from, to, reach);
                    } else if (from == to) {
                        hits[from][to] = 0;
                    } else {
                        // A length that was never seen changes nothing at the row's end.
                        hits[from][to] = seen[to] ? hits[from + 1][to] : hits[from][to - 1];
                    }
                }
                behind[1][from] = hits[from][MOST_LENGTH];
            }
            for (int left = 2; left <= rows; left++) {
                for (int from = 1; from <= MOST_LENGTH + 1 - left; from++) {
                    behind[left][from] = countBehind(left, from);
                }
            }
        }

        private int countBehind(int left, int from) {
            int most = 0;
            for (int to = from; to <= MOST_LENGTH + 1 - left; to++) {
                most = Math.max(most, hits[from][to] + behind[left - 1][to + 1]);
            }
            return most;
        }

        private int countMost(int from, int to, int reach) {
            int most = 0;
            int inside = 0;
            int tail = 0;
            for (int head = 0; head < count; head++) {
                if (length[head] < from || length[head] > to) {
                    continue;
                }
                inside++;
                while (tail < head && wait[head] - wait[tail] > 2 * reach) {
                    if (length[tail] >= from && length[tail] <= to) {
                        inside--;
                    }
                    tail++;
                }
                most = Math.max(most, inside);
            }
            return most;
        }

        private void placeRows() {
            int from = 1;
            for (int row = 0; row < rows; row++) {
                int to = findEnd(from, rows - row);
                start[row] = from;
                time[row] = findTime(from, to);
                from = to + 1;
            }
        }

        /** The least last length of a row with which it and those behind it hit the most; left counts them all. */
        private int findEnd(int from, int left) {
            int last = MOST_LENGTH + 1 - left;
            if (left <= 1) {
                return last;
            }
            for (int to = from; to < last; to++) {
                if (hits[from][to] + behind[left - 1][to + 1] == behind[left][from]) {
                    return to;
                }
            }
            return last;
        }

        /** The least time that hits the most: 0, or one that just reaches a wait. */
        private int findTime(int from, int to) {
            int most = hits[from][to];
            int least = 0;
            for (int sight = 0; sight < count && countHits(from, to, least) < most; sight++) {
                least = Math.max(0, wait[sight] - span);
            }
            return least;
        }

        private int countHits(int from, int to, int middle) {
            int hit = 0;
            for (int sight = 0; sight < count; sight++) {
                boolean inRow = length[sight] >= from && length[sight] <= to;
                if (inRow && Math.abs(wait[sight] - middle) <= span) {
                    hit++;
                }
            }
            return hit;
        }
    }

    /** The logs, and how many of them a course is like. */
    private static final class Logs {
        int count = 0;
        private final int[] from = new int[MOST_LOGS];
        private final int[] to = new int[MOST_LOGS];
        private final boolean[] played = new boolean[MOST_LOGS];
        private final int[] begun = new int[LOGGED_SECONDS + 1];

        int tell(int newFrom, int newTo, boolean newPlayed) {
            if (count >= MOST_LOGS) {
                return NONE;
            }
            from[count] = newFrom;
            to[count] = newTo;
            played[count] = newPlayed;
            count++;
            return count - 1;
        }

        int countAlike(int[] thrown, int high) {
            countBegun(thrown, high);
            int alike = 0;
            for (int log = 0; log < count; log++) {
                boolean began = begun[to[log]] > begun[from[log] - 1];
                if (began == played[log]) {
                    alike++;
                }
            }
            return alike;
        }

        /** How many plays began so far, second by second; a course has no more than its first 200. */
        private void countBegun(int[] thrown, int high) {
            boolean playing = false;
            for (int second = 1; second <= LOGGED_SECONDS; second++) {
                boolean plays = thrown[second] >= high;
                boolean begins = plays && !playing && begun[second - 1] < MOST_PLAYS;
                begun[second] = begun[second - 1] + (begins ? 1 : 0);
                playing = plays;
            }
        }
    }
}
