/**
 * The edges of what is told and asked about a SPRING (the third part of "Terms", promises 13 to 29), sentence by
 * sentence: the last that is taken, the first that is refused.
 */
public final class AskEdgeTest {
    private static final int MIN = Integer.MIN_VALUE;
    private static final int MAX = Integer.MAX_VALUE;
    private static final int[] BAD_SHELVES = {-1, 4, MIN, MAX};
    private static final int[] BAD_SECONDS = {0, -1, 1001, MIN, MAX};

    private AskEdgeTest() {
    }

    public static void main(String[] args) {
        sightNumbers();
        sightsOf60();
        untellOnce();
        laterUpTo100000();
        countsAsKnownAt();
        boardArguments();
        withoutSights();
        hitsAtTheSpan();
        shareOfAll();
        rowsOneBehindTheOther();
        rowsBeginLower();
        lesserTimes();
        boardsOneBehindAnother();
        logNumbers();
        logsOf40();
        clearAll();
        fitsBits();
        fitsFirstSeconds();
        threadArguments();
        threadOfLikeOnes();
        threadOfAbsentRooms();
        shookArguments();
        shookWides();
        stolenEdges();
        yearsEdges();
        ledArguments();
        ledGrains();
        ringArguments();
        ringUpToN();
        partsArguments();
        partsEdges();
        gapArguments();
        gapsJustFilled();
        aboutNumbers();
        askedBehindOneAnother();
        roomsUpTo8();
        slowChanges();
        Due.finish("AskEdgeTest");
    }

    private static SpoutSpring clock() {
        return Springs.with(Springs.CLOCK, Springs.CLOCK_LAWS, 0);
    }

    // ---- SIGHTS and BOARDS

    /** "a length (1 .. 99), a wait behind it (0 .. 999)"; "NONE, doing nothing, if one can't be". */
    private static void sightNumbers() {
        SpoutSpring x = new SpoutSpring();
        int[][] bad = {{0, 5}, {100, 5}, {-1, 5}, {5, -1}, {5, 1000}, {MIN, 0}, {MAX, 0}, {1, MIN}, {1, MAX}, {0, -1}};
        int[][] good = {{1, 0}, {99, 999}, {1, 999}, {99, 0}};
        for (int i = 0; i < good.length; i++) {
            for (int[] b : bad) {
                Due.same("sight " + b[0] + " " + b[1], x.sight(b[0], b[1]), -1);
                Due.same("nothing done", x.about(9), i);
                Due.same("no span of it", x.span(1, 0, 0), 0);
            }
            Due.same("sight " + good[i][0] + " " + good[i][1], x.sight(good[i][0], good[i][1]), i);
        }
        Due.same("0 and 999", x.span(1, 100, 0), 500);
    }

    /** "SIGHTS, 60 at most"; "NONE, doing nothing, if .. there are 60"; an UNTOLD one is there yet. */
    private static void sightsOf60() {
        SpoutSpring x = new SpoutSpring();
        for (int i = 0; i < 60; i++) {
            Due.same("sight", x.sight(50, i == 59 ? 10 : 0), i);
        }
        Due.same("all but one by 0", x.span(1, 98, 0), 0);
        Due.same("all by 5", x.span(1, 99, 0), 5);
        Due.same("a 61st", x.sight(50, 999), -1);
        Due.same("sixty stay", x.about(9), 60);
        Due.same("it does not count", x.span(1, 100, 0), 5);
        Due.yes("untell the last", x.untell(59));
        Due.same("sixty yet", x.about(9), 60);
        Due.same("no more room", x.sight(50, 999), -1);
        Due.same("fifty-nine count", x.span(1, 100, 0), 0);
    }

    /** "A SIGHT is UNTOLD: true; false if it is so already, or there is none such." */
    private static void untellOnce() {
        SpoutSpring x = new SpoutSpring();
        int[] never = {-1, 60, MIN, MAX};
        Due.no("none yet", x.untell(0));
        for (int i = 0; i < 3; i++) {
            x.sight(5, 100 * i);
        }
        for (int bad : never) {
            Due.no("untell " + bad, x.untell(bad));
        }
        Due.no("a fourth", x.untell(3));
        Due.same("none was untold", x.span(1, 100, 0), 100);
        Due.yes("the last", x.untell(2));
        Due.no("again", x.untell(2));
        Due.same("two count", x.span(1, 100, 0), 50);
        x.later(10);
        Due.no("again, later", x.untell(2));
        Due.same("untold at 0, not at 10", x.span(1, 100, 5), 50);
        Due.yes("the first", x.untell(0));
        Due.same("at 9", x.span(1, 100, 9), 50);
        Due.same("at 10", x.span(1, 100, 10), 0);
        Due.yes("the second", x.untell(1));
        Due.same("none at 10", x.board(1, 100, 5, 10), -1);
        Due.same("two at 9", x.board(1, 100, 5, 9), 50);
        Due.same("three are there", x.about(9), 3);
    }

    /** "So much later (0 .. 1000): the TIME; NONE, doing nothing, for another number, or if it would be above 100,000." */
    private static void laterUpTo100000() {
        SpoutSpring x = new SpoutSpring();
        int[] bad = {-1, 1001, MIN, MAX};
        Due.same("0", x.later(0), 0);
        for (int by : bad) {
            Due.same("later " + by, x.later(by), -1);
            Due.same("nothing done", x.about(11), 0);
        }
        Due.same("1000", x.later(1000), 1000);
        Due.same("1", x.later(1), 1001);
        for (int i = 0; i < 98; i++) {
            x.later(1000);
        }
        Due.same("99001", x.about(11), 99001);
        Due.same("100001", x.later(1000), -1);
        Due.same("99001 stays", x.about(11), 99001);
        Due.same("100000", x.later(999), 100000);
        Due.same("0 more", x.later(0), 100000);
        Due.same("1 more", x.later(1), -1);
        for (int by : bad) {
            Due.same("later " + by + " at the end", x.later(by), -1);
        }
        Due.same("100000 stays", x.about(11), 100000);
        Due.same("told at the end", x.sight(5, 7), 0);
        Due.same("not known ahead", x.board(1, 100, 5, 99999), -1);
        Due.same("known at the end", x.board(1, 100, 5, 100000), 7);
    }

    /** "as known at k those count that were TOLD at k or before, not UNTOLD at k or before". */
    private static void countsAsKnownAt() {
        SpoutSpring x = new SpoutSpring();
        x.later(5);
        x.sight(50, 300);
        x.later(2);
        x.untell(0);
        x.later(3);
        x.sight(50, 400);
        x.later(1000);
        int[][] due = {{MIN, -1}, {-1, -1}, {0, -1}, {4, -1}, {5, 300}, {6, 300}, {7, -1}, {8, -1}, {9, -1}, {10, 400},
            {11, 400}, {1010, 400}, {1011, 400}, {100001, 400}, {MAX, 400}};
        for (int[] d : due) {
            Due.same("board at " + d[0], x.board(1, 100, 50, d[0]), d[1]);
            Due.same("span at " + d[0], x.span(1, 100, d[0]), 0);
        }
        SpoutSpring y = new SpoutSpring();
        y.sight(1, 0);
        y.untell(0);
        Due.same("told and untold at 0", y.board(1, 0, 1, 0), -1);
        Due.same("nor ahead of it", y.board(1, 0, 1, -1), -1);
    }

    /** "NONE if one can't be": rows (1 .. 4), a share (0 .. 100), a length (1 .. 99). */
    private static void boardArguments() {
        SpoutSpring x = new SpoutSpring();
        x.sight(1, 10);
        x.sight(99, 30);
        int[] badRows = {0, -1, 5, MIN, MAX};
        int[] badShares = {-1, 101, MIN, MAX};
        int[] badLengths = {0, -1, 100, MIN, MAX};
        for (int rows = 1; rows <= 4; rows++) {
            for (int share : badShares) {
                Due.same("span of share " + share, x.span(rows, share, 0), -1);
                Due.same("board of share " + share, x.board(rows, share, 1, 0), -1);
            }
            for (int length : badLengths) {
                Due.same("board of length " + length, x.board(rows, 100, length, 0), -1);
            }
            Due.same("share 0", x.span(rows, 0, 0), 0);
            Due.same("share 100", x.span(rows, 100, 0), rows == 1 ? 10 : 0);
            Due.same("length 1", x.board(rows, 100, 1, 0), rows == 1 ? 20 : 10);
            Due.same("length 99", x.board(rows, 100, 99, 0), rows == 1 ? 20 : 30);
        }
        for (int rows : badRows) {
            Due.same("span of rows " + rows, x.span(rows, 100, 0), -1);
            Due.same("board of rows " + rows, x.board(rows, 100, 1, 0), -1);
            Due.same("span of rows " + rows + " without sights", x.span(rows, 100, -1), -1);
        }
        Due.same("share 101 without sights", x.span(1, 101, -1), -1);
    }

    /** "The SPAN of BEST (0 without SIGHTS)"; "NONE likewise, or without SIGHTS." */
    private static void withoutSights() {
        SpoutSpring x = new SpoutSpring();
        for (int rows = 1; rows <= 4; rows++) {
            for (int share = 0; share <= 100; share += 50) {
                Due.same("no span", x.span(rows, share, 0), 0);
                Due.same("no board", x.board(rows, share, 1, 0), -1);
                Due.same("no board", x.board(rows, share, 99, MAX), -1);
            }
        }
        x.sight(5, 0);
        Due.same("one with wait 0: its time is no NONE", x.board(4, 100, 5, 0), 0);
    }

    /** "it HITS a SIGHT, if its wait is no further than the SPAN from the time of its length's row" (0 .. 999). */
    private static void hitsAtTheSpan() {
        int[][] due = {{0, 0, 0, 0}, {0, 1, 1, 0}, {0, 2, 1, 1}, {0, 3, 2, 1}, {0, 10, 5, 5}, {0, 11, 6, 5}, {10, 13, 2, 11},
            {0, 999, 500, 499}, {1, 999, 499, 500}, {998, 999, 1, 998}, {999, 999, 0, 999}, {500, 999, 250, 749}};
        for (int[] d : due) {
            for (int rows = 1; rows <= 4; rows++) {
                SpoutSpring x = new SpoutSpring();
                x.sight(42, d[0]);
                x.sight(42, d[1]);
                Due.same("span of " + d[0] + " " + d[1], x.span(rows, 100, 0), d[2]);
                Due.same("half of them", x.span(rows, 50, 0), 0);
                Due.same("more than half", x.span(rows, 51, 0), d[2]);
                Due.same("time of " + d[0] + " " + d[1], x.board(rows, 100, 42, 0), d[3]);
                Due.same("time for half", x.board(rows, 50, 42, 0), d[0]);
            }
        }
    }

    /** "hits * 100 at least share * all". */
    private static void shareOfAll() {
        SpoutSpring x = new SpoutSpring();
        for (int i = 0; i < 60; i++) {
            x.sight(7, 10 * i);
        }
        SpoutSpring y = new SpoutSpring();
        for (int i = 0; i < 7; i++) {
            y.sight(7, 100 * i);
        }
        for (int share = 0; share <= 100; share++) {
            Due.same("60, share " + share, x.span(1, share, 0), 5 * Math.max(0, (share * 60 + 99) / 100 - 1));
            Due.same("7, share " + share, y.span(1, share, 0), 50 * Math.max(0, (share * 7 + 99) / 100 - 1));
        }
    }

    /** "the lengths 1 .. 99 are parted to c rows, one behind the other, none empty". */
    private static void rowsOneBehindTheOther() {
        SpoutSpring x = new SpoutSpring();
        x.sight(1, 0);
        x.sight(2, 10);
        x.sight(3, 0);
        Due.same("one row", x.span(1, 100, 0), 5);
        Due.same("two rows: not 1 and 3 without 2", x.span(2, 100, 0), 5);
        Due.same("three rows", x.span(3, 100, 0), 0);
        Due.same("four rows", x.span(4, 100, 0), 0);
        for (int length = 1; length <= 96; length += 19) {
            SpoutSpring y = new SpoutSpring();
            for (int i = 0; i < 4; i++) {
                y.sight(length + i, 100 * i);
            }
            Due.same("four lengths, four rows", y.span(4, 100, 0), 0);
            for (int i = 0; i < 4; i++) {
                Due.same("row " + i, y.board(4, 100, length + i, 0), 100 * i);
            }
            Due.same("what is below is the first row's", y.board(4, 100, 1, 0), 0);
            Due.same("what is beyond is the last row's", y.board(4, 100, 99, 0), 300);
            Due.same("three rows", y.span(3, 100, 0), 50);
        }
        SpoutSpring z = new SpoutSpring();
        z.sight(33, 0);
        z.sight(33, 8);
        Due.same("one length is in one row", z.span(4, 100, 0), 4);
    }

    /** "of like ones the one whose rows begin lower (the first length of the second row, then of the third ..)". */
    private static void rowsBeginLower() {
        SpoutSpring x = new SpoutSpring();
        x.sight(10, 100);
        x.sight(20, 200);
        Due.same("10 is the first row's", x.board(2, 100, 10, 0), 100);
        Due.same("11 is the second's", x.board(2, 100, 11, 0), 200);
        Due.same("19", x.board(2, 100, 19, 0), 200);
        // Three rows: the second begins at 2 and has 10, the third at 11.
        Due.same("1 of three", x.board(3, 100, 1, 0), 0);
        Due.same("2 of three", x.board(3, 100, 2, 0), 100);
        Due.same("10 of three", x.board(3, 100, 10, 0), 100);
        Due.same("11 of three", x.board(3, 100, 11, 0), 200);
        Due.same("2 of four", x.board(4, 100, 2, 0), 0);
        Due.same("3 of four", x.board(4, 100, 3, 0), 100);
        Due.same("10 of four", x.board(4, 100, 10, 0), 100);
        Due.same("11 of four", x.board(4, 100, 11, 0), 200);
        SpoutSpring y = new SpoutSpring();
        y.sight(99, 7);
        Due.same("all begin low", y.board(4, 100, 3, 0), 0);
        Due.same("the fourth", y.board(4, 100, 4, 0), 7);
        SpoutSpring z = new SpoutSpring();
        z.sight(1, 7);
        Due.same("the first row", z.board(4, 100, 1, 0), 7);
        Due.same("the second", z.board(4, 100, 2, 0), 0);
    }

    /** "of the BOARD that HITS most with that SPAN, .. then that of the lesser times, row by row". */
    private static void lesserTimes() {
        SpoutSpring x = new SpoutSpring();
        x.sight(5, 20);
        x.sight(5, 10);
        x.sight(60, 500);
        x.sight(60, 400);
        Due.same("one of 10 and 20", x.board(2, 50, 5, 0), 10);
        Due.same("one of 400 and 500", x.board(2, 50, 60, 0), 400);
        // By 5 it hits both of 10 and 20, and one of the others: 400 - 5 is the least for it.
        Due.same("three of four", x.span(2, 75, 0), 5);
        Due.same("both", x.board(2, 75, 5, 0), 15);
        Due.same("the least time", x.board(2, 75, 60, 0), 395);
        // Share 0 asks for none, and yet the one that HITS most is taken.
        Due.same("share 0", x.span(2, 0, 0), 0);
        Due.same("share 0 hits all the same", x.board(2, 0, 60, 0), 400);
        x.sight(60, 500);
        Due.same("now two of 500", x.board(2, 0, 60, 0), 500);
        Due.same("0 at least", new SpoutSpring().span(1, 100, 0), 0);
        SpoutSpring y = new SpoutSpring();
        y.sight(5, 3);
        y.sight(60, 800);
        y.sight(60, 820);
        Due.same("span 10", y.span(2, 100, 0), 10);
        Due.same("no time below 0", y.board(2, 100, 5, 0), 0);
    }

    /** What a BOARD was asked for leaves nothing behind for the next. */
    private static void boardsOneBehindAnother() {
        SpoutSpring x = new SpoutSpring();
        x.sight(42, 900);
        x.sight(50, 500);
        x.later(5);
        x.untell(0);
        Due.same("two known at 0: the second row begins at 43", x.board(2, 100, 10, 0), 900);
        Due.same("50 is the second's", x.board(2, 100, 50, 0), 500);
        Due.same("one known at 5: the second row begins at 2", x.board(2, 100, 10, 5), 500);
        Due.same("its first row hits none", x.board(2, 100, 1, 5), 0);
        Due.same("again at 0", x.board(2, 100, 10, 0), 900);
        Due.same("three rows at 0: from 1, 2 and 43 on", x.board(3, 100, 10, 0), 900);
        Due.same("three rows at 5: from 1, 2 and 3 on", x.board(3, 100, 10, 5), 500);
        Due.same("four rows at 0: from 1, 2, 3 and 43 on", x.board(4, 100, 10, 0), 900);
        Due.same("four rows at 5: from 1, 2, 3 and 4 on", x.board(4, 100, 10, 5), 500);
        Due.same("another share", x.span(1, 100, 0), 200);
        Due.same("another share", x.span(1, 50, 0), 0);
        Due.same("more rows", x.span(2, 100, 0), 0);
        Due.same("less rows", x.span(1, 100, 0), 200);
        x.sight(50, 520);
        Due.same("a new one at 5", x.span(1, 100, 5), 10);
        Due.same("not known at 0", x.span(1, 100, 0), 200);
        x.untell(1);
        Due.same("untold at 5", x.board(1, 100, 50, 5), 520);
        x.later(1);
        x.untell(2);
        Due.same("one at 5 yet", x.board(1, 100, 50, 5), 520);
        Due.same("none at 6", x.board(1, 100, 50, 6), -1);
    }

    // ---- LOGS

    /** "a PLAY began in a SECOND from .. to (1 .. 500, to not below from)"; "NONE, doing nothing, if one can't be". */
    private static void logNumbers() {
        SpoutSpring x = new SpoutSpring();
        int[][] bad = {{0, 0}, {0, 5}, {-1, 5}, {MIN, 5}, {5, 4}, {500, 499}, {500, 501}, {501, 501}, {1, 501}, {1, 0},
            {1, -1}, {5, MIN}, {5, MAX}, {MAX, MAX}, {MIN, MAX}, {MAX, MIN}};
        int[][] good = {{1, 1}, {500, 500}, {1, 500}, {499, 500}};
        for (int i = 0; i < good.length; i++) {
            for (int[] b : bad) {
                Due.same("log " + b[0] + " " + b[1], x.log(b[0], b[1], true), -1);
                Due.same("log none " + b[0] + " " + b[1], x.log(b[0], b[1], false), -1);
                Due.same("nothing done", x.about(10), i);
            }
            Due.same("all fit yet", x.fits(), 15);
            Due.same("log " + good[i][0] + " " + good[i][1], x.log(good[i][0], good[i][1], false), i);
        }
    }

    /** "LOGS, 40 at most"; "or there are 40". */
    private static void logsOf40() {
        SpoutSpring x = clock();
        for (int i = 0; i < 40; i++) {
            Due.same("log", x.log(4 * i + 4, 4 * i + 4, true), i);
        }
        Due.same("it fits them", x.fits(), 1);
        Due.same("a 41st", x.log(5, 5, true), -1);
        Due.same("a 41st that can't be", x.log(0, 5, true), -1);
        Due.same("forty stay", x.about(10), 40);
        Due.same("the 41st is none", x.fits(), 1);
        Due.same("cleared", x.clear(), 40);
        Due.same("from 0 again", x.log(5, 5, true), 0);
        Due.same("the new one counts", x.fits(), 0);
    }

    /** "LOGS are none: how many there were." */
    private static void clearAll() {
        SpoutSpring x = new SpoutSpring();
        Due.same("none", x.clear(), 0);
        for (int many = 0; many <= 3; many++) {
            for (int i = 0; i < many; i++) {
                x.log(1, 1, true);
            }
            Due.same("so many fit", x.fits(), many == 0 ? 15 : 0);
            Due.same("were there", x.clear(), many);
            Due.same("none are", x.about(10), 0);
            Due.same("all fit", x.fits(), 15);
            Due.same("none", x.clear(), 0);
        }
    }

    /** "The SHELVES that FIT, as bits." */
    private static void fitsBits() {
        for (int set = 0; set < 16; set++) {
            SpoutSpring x = new SpoutSpring();
            x.cold(0);
            Due.laws(x, Springs.CLOCK_LAWS);
            for (int shelf = 0; shelf < 4; shelf++) {
                Due.spring(x, shelf, (set >> shelf & 1) != 0 ? Springs.CLOCK : Springs.POND);
            }
            Due.same("without logs", x.fits(), 15);
            x.log(4, 4, true);
            Due.same("those that play", x.fits(), set);
            x.log(5, 7, false);
            Due.same("and not in 5 .. 7", x.fits(), set);
            x.clear();
            x.log(1, 500, false);
            Due.same("those that don't", x.fits(), 15 - set);
            x.log(500, 500, true);
            Due.same("none does both", x.fits(), 0);
        }
    }

    /** "for each LOG, a PLAY whose first SECOND is in it, or none"; "its COURSE of 500". */
    private static void fitsFirstSeconds() {
        int[][] ranges = {{1, 3}, {3, 3}, {3, 4}, {4, 4}, {4, 5}, {5, 5}, {5, 7}, {5, 8}, {1, 500}, {496, 496}, {497, 499},
            {497, 500}, {499, 499}, {500, 500}, {8, 12}, {9, 11}};
        for (int[] r : ranges) {
            SpoutSpring x = clock();
            boolean played = r[1] / 4 > (r[0] - 1) / 4;
            x.log(r[0], r[1], true);
            Due.same("played " + r[0] + " " + r[1], x.fits() & 1, played ? 1 : 0);
            x.clear();
            x.log(r[0], r[1], false);
            Due.same("none " + r[0] + " " + r[1], x.fits() & 1, played ? 0 : 1);
        }
        SpoutSpring x = Springs.with(Springs.JET, "", 0);
        x.log(1, 1, true);
        x.log(2, 500, false);
        Due.same("it began in 1 and goes on", x.fits() & 1, 1);
    }

    // ---- THREAD and SHOOK

    /** "SHELVES (bits 0 .. 15)"; "NONE if there is none, or one can't be." */
    private static void threadArguments() {
        SpoutSpring x = new SpoutSpring();
        for (int shelf = 0; shelf < 4; shelf++) {
            Due.spring(x, shelf, Springs.line("room a", "air", 0, 9, 0, shelf, 1));
        }
        int[] bad = {-1, 16, 17, MIN, MAX};
        int[] badWhats = {-1, 3, MIN, MAX};
        for (int set = 0; set < 16; set++) {
            int many = Integer.bitCount(set);
            Due.same("room of set " + set, x.thread(set, 0), many < 2 ? -1 : 0);
            Due.same("second of set " + set, x.thread(set, 1), many < 2 ? -1 : 1);
            Due.same("values of set " + set, x.thread(set, 2), many < 2 ? -1 : many);
            for (int what : badWhats) {
                Due.same("what " + what, x.thread(set, what), -1);
            }
        }
        for (int set : bad) {
            for (int what = 0; what < 3; what++) {
                Due.same("set " + set, x.thread(set, what), -1);
            }
        }
    }

    /** "the most different values among them; of like ones the least SECOND, then ROOM; none if all are alike". */
    private static void threadOfLikeOnes() {
        String same = Springs.line("room a", "air", 0, 9, 0, 0, 1) + Springs.line("room b", "air", 0, 9, 0, 0, 1);
        SpoutSpring x = new SpoutSpring();
        Due.spring(x, 0, same + Springs.line("room c", "air", 0, 9, 0, 0, 1) + Springs.line("room d", "air", 0, 9, 0, 0, 1));
        Due.spring(x, 1, same + Springs.line("room c", "air", 0, 9, 0, 5, 1) + Springs.line("room d", "air", 0, 9, 0, 5, 1));
        Due.same("the third room and the fourth: the third", x.thread(3, 0), 2);
        Due.same("in second 1", x.thread(3, 1), 1);
        Due.same("two values", x.thread(3, 2), 2);
        // A later second, or a later room, is taken for more values.
        Due.spring(x, 2, same + Springs.line("room c", "air", 0, 9, 0, 0, 1) + Springs.line("room d", "air", 0, 9, 0, 9, 1));
        Due.same("the fourth has three", x.thread(7, 0), 3);
        Due.same("in second 1 as well", x.thread(7, 1), 1);
        Due.same("three values", x.thread(7, 2), 3);
        Due.spring(x, 3, same + Springs.line("room c", "air", 0, 9, 0, 0, 1) + Springs.line("room d", "air", 0, 9, 0, 9, 1));
        Due.same("no more by a like one", x.thread(15, 2), 3);
        Due.same("2 and 3 are alike", x.thread(12, 0), -1);
        Due.same("2 and 3 are alike", x.thread(12, 1), -1);
        Due.same("2 and 3 are alike", x.thread(12, 2), -1);
        // WARMTH parts at once, WARMTH / water only when it comes to a whole one: 31 / 3 is 10 too, 64 / 6 is not.
        SpoutSpring y = new SpoutSpring();
        Due.spring(y, 0, Springs.line("room a", "air", 0, 9, 0, 1, 3));
        Due.spring(y, 1, Springs.line("room a", "air", 0, 9, 0, 0, 3));
        Due.same("31 / 3, 62 / 6, 93 / 9, 94 / 9 .. 99 / 9", y.thread(3, 1), 9);
    }

    /** "(0 where there is none such)". */
    private static void threadOfAbsentRooms() {
        StringBuilder text = new StringBuilder();
        for (char name = 'a'; name <= 'g'; name++) {
            text.append(Springs.line("room " + name, "air", 0, 9, 0, 0, 1));
        }
        SpoutSpring x = new SpoutSpring();
        Due.spring(x, 0, text.toString());
        Due.spring(x, 1, text + Springs.line("room h", "air", 0, 9, 0, 0, 1));
        Due.same("the eighth room", x.thread(3, 0), 7);
        Due.same("its values", x.thread(3, 2), 2);
        Due.same("one of none", x.thread(5, 0), 0);
        Due.spring(x, 1, text + Springs.line("room h", "air", 0, 9, 0, 0, 0));
        Due.same("0 as well", x.thread(3, 0), -1);
        // A spring with more rooms stood there ahead: they are none any more.
        Due.spring(x, 1, text + Springs.line("room h", "air", 0, 9, 0, 0, 1));
        Due.same("the eighth room", x.thread(3, 0), 7);
        Due.spring(x, 1, text.toString());
        Due.same("it is gone", x.thread(3, 0), -1);
    }

    /** SHOOK: "NONE if there is none, or one can't be." */
    private static void shookArguments() {
        for (int shelf = 0; shelf < 4; shelf++) {
            SpoutSpring x = new SpoutSpring();
            x.cold(0);
            Due.laws(x, Springs.CLOCK_LAWS);
            Due.spring(x, shelf, Springs.CLOCK);
            x.log(4, 4, false);
            int[] due = {0, 4, 1};
            for (int what = 0; what < 3; what++) {
                Due.same("what " + what, x.shook(shelf, what), due[what]);
                Due.same("another shelf", x.shook(3 - shelf, what), -1);
                for (int bad : BAD_SHELVES) {
                    Due.same("shelf " + bad, x.shook(bad, what), -1);
                }
            }
            int[] badWhats = {-1, 3, MIN, MAX};
            for (int bad : badWhats) {
                Due.same("what " + bad, x.shook(shelf, bad), -1);
            }
            Due.same("it does not shake the shelf itself", x.play(shelf, 4, 0, 2), 8);
            x.clear();
            Due.same("no logs: none", x.shook(shelf, 0), -1);
        }
    }

    /** "a wide (0 .. 30) in place of its own ..; the wide nearest its own, then the lesser; none if no more are so". */
    private static void shookWides() {
        // In second 4 it throws what t has, 30, as far as it is wide: high h is hit by each wide from h on.
        String text = Springs.line("neck t", "air", 0, 99, 12, 0, 30) + Springs.line("room b", "t", 9, 1, 0, 100, 1);
        SpoutSpring x = Springs.with(text, Springs.CLOCK_LAWS, 0);
        x.log(4, 4, true);
        for (int high = 1; high <= 30; high++) {
            x.high(high);
            Due.same("played, high " + high, x.shook(0, 1), high <= 12 ? -1 : high);
        }
        x.high(31);
        Due.same("beyond all", x.shook(0, 1), -1);
        x.clear();
        x.log(4, 4, false);
        for (int high = 1; high <= 31; high++) {
            x.high(high);
            Due.same("none, high " + high, x.shook(0, 1), high <= 12 ? high - 1 : -1);
        }
        x.high(5);
        x.log(8, 8, false);
        x.log(12, 12, true);
        Due.same("two of three", x.shook(0, 2), 2);
        x.log(16, 16, true);
        Due.same("two of four as well as without", x.shook(0, 2), -1);
        // No wide below 0: t's is 0, and only u's can be less.
        String two = Springs.line("neck t", "air", 0, 99, 0, 0, 5) + Springs.line("room b", "t", 9, 1, 0, 100, 1)
            + Springs.line("neck u", "air", 0, 99, 5, 0, 5) + Springs.line("room c", "u", 9, 1, 0, 100, 1);
        x = Springs.with(two, Springs.CLOCK_LAWS, 0);
        x.log(4, 4, false);
        Due.same("u", x.shook(0, 0), 2);
        Due.same("one less", x.shook(0, 1), 4);
        // No wide above 30, though t has 60 and 60 are to be thrown.
        x = Springs.with(Springs.line("neck t", "air", 0, 99, 12, 0, 30) + Springs.line("room b", "t", 9, 2, 0, 400, 2),
            "boil 300; lift 30;", 0);
        x.log(2, 2, true);
        x.high(30);
        Due.same("30 by 30", x.shook(0, 1), 30);
        x.high(31);
        Due.same("31 by none", x.shook(0, 1), -1);
    }

    // ---- what else is asked

    /** "STOLEN; -1000 if one can't be." */
    private static void stolenEdges() {
        String text = Springs.CLOCK + Springs.line("room c", "air", 0, 99, 0, 0, 0) + "join t c wide 30;";
        for (int shelf = 0; shelf < 4; shelf++) {
            SpoutSpring x = new SpoutSpring();
            x.cold(0);
            Due.laws(x, Springs.CLOCK_LAWS);
            Due.same("an empty shelf", x.stolen(shelf, 1), 0);
            Due.same("an empty shelf", x.stolen(shelf, 1000), 0);
            Due.spring(x, shelf, text);
            Due.same("one second", x.stolen(shelf, 1), 0);
            Due.same("not yet", x.stolen(shelf, 3), 0);
            Due.same("one", x.stolen(shelf, 4), 1);
            Due.same("not another", x.stolen(shelf, 7), 1);
            Due.same("the joins are there yet", x.plays(shelf, 4), 0);
            for (int bad : BAD_SHELVES) {
                Due.same("shelf " + bad, x.stolen(bad, 4), -1000);
            }
            for (int bad : BAD_SECONDS) {
                Due.same("seconds " + bad, x.stolen(shelf, bad), -1000);
            }
        }
    }

    /** "YEARS of n SECONDS (1 .. 100); NONE if there are none, or one can't be."; "in at most 20"; "(0 at least)". */
    private static void yearsEdges() {
        for (int shelf = 0; shelf < 4; shelf++) {
            SpoutSpring x = new SpoutSpring();
            Due.same("an empty shelf", x.years(shelf, 1), 1);
            Due.spring(x, shelf, Springs.GEYSER);
            for (int bad : BAD_SHELVES) {
                Due.same("shelf " + bad, x.years(bad, 9), -1);
            }
            int[] badSeconds = {0, -1, 101, 1000, MIN, MAX};
            for (int bad : badSeconds) {
                Due.same("seconds " + bad, x.years(shelf, bad), -1);
            }
            if (shelf == 3) {
                for (int n = 1; n <= 100; n++) {
                    Due.same("years of " + n, x.years(shelf, n), n < 3 ? 1 : 6);
                }
            }
            Due.same("the neck is as wide as it was", x.play(shelf, 3, 0, 2), 9);
        }
        for (int wide = 0; wide <= 30; wide++) {
            SpoutSpring x = Springs.with(Springs.GEYSER.replace("holds 10 wide 9", "holds 40 wide " + wide)
                .replace("cold 5", "cold 30"), "boil 105; lift 30;", 10);
            for (int high = 1; high <= 30; high += 7) {
                x.high(high);
                int due = Math.max(1, wide - high + 2);
                Due.same("wide " + wide + " high " + high, x.years(0, 9), due <= 20 ? due : -1);
            }
        }
        // A neck of wide 2 beside one of 19: the first stays at 0, the other comes to it in the twentieth year.
        String two = Springs.line("neck t", "air", 0, 99, 2, 0, 30) + Springs.line("room b", "t", 9, 1, 0, 400, 1)
            + Springs.line("neck u", "air", 0, 99, 19, 0, 30) + Springs.line("room c", "u", 9, 1, 0, 400, 1);
        SpoutSpring x = Springs.with(two, Springs.CLOCK_LAWS, 0);
        x.high(1);
        Due.same("plays on and on, begins once", x.years(0, 5), 2);
        SpoutSpring y = Springs.with(two.replace("400", "100"), Springs.CLOCK_LAWS, 0);
        y.high(1);
        Due.same("the twentieth", y.years(0, 4), 20);
        Due.same("the twentieth, four times a year", y.years(0, 16), 20);
        Due.spring(y, 0, two.replace("400", "100").replace("wide 19", "wide 20"));
        Due.same("not in twenty", y.years(0, 4), -1);
        Due.spring(y, 0, two.replace("400", "100").replace("neck", "pool"));
        Due.same("no necks", y.years(0, 4), -1);
    }

    /** "LED from a ROOM, with so many PLAYS (1 .. 99) at least; NONE if there is none, or one can't be." */
    private static void ledArguments() {
        int[] badRooms = {-1, 2, 7, 8, MIN, MAX};
        int[] badPlays = {0, -1, 100, MIN, MAX};
        for (int shelf = 0; shelf < 4; shelf++) {
            SpoutSpring x = new SpoutSpring();
            x.cold(0);
            Due.laws(x, Springs.CLOCK_LAWS);
            Due.same("no room yet", x.led(shelf, 0, 1, 4), -1);
            Due.spring(x, shelf, Springs.CLOCK);
            Due.same("one play of 4", x.led(shelf, 0, 1, 4), 1);
            Due.same("99 of 396", x.led(shelf, 0, 99, 396), 1);
            Due.same("99 of 1000", x.led(shelf, 0, 99, 1000), 1);
            Due.same("99 of 395", x.led(shelf, 0, 99, 395), -1);
            Due.same("one of one second", x.led(shelf, 0, 1, 1), -1);
            Due.same("from b", x.led(shelf, 1, 1, 4), 0);
            for (int bad : BAD_SHELVES) {
                Due.same("shelf " + bad, x.led(bad, 0, 1, 4), -1);
            }
            for (int bad : badRooms) {
                Due.same("room " + bad, x.led(shelf, bad, 1, 4), -1);
            }
            for (int bad : badPlays) {
                Due.same("plays " + bad, x.led(shelf, 0, bad, 1000), -1);
            }
            for (int bad : BAD_SECONDS) {
                Due.same("seconds " + bad, x.led(shelf, 0, 1, bad), -1);
            }
            Due.same("nothing was taken", x.play(shelf, 4, 0, 2), 8);
        }
    }

    /** "the most grains (0 .. 30) that may be taken .. as each SECOND ends (with their share; all it has, if less)". */
    private static void ledGrains() {
        // In second 4 t has 4 * cold less what was taken in three seconds; all of it is thrown.
        for (int cold = 1; cold <= 7; cold++) {
            SpoutSpring x = Springs.with(Springs.CLOCK.replace("cold 2", "cold " + cold).replace("holds 10", "holds 99")
                .replace("wide 10", "wide 30"), Springs.CLOCK_LAWS, 0);
            for (int high = 1; high <= 4 * cold + 1; high++) {
                x.high(high);
                int due = high > 4 * cold ? -1 : high <= cold ? 30 : (4 * cold - high) / 3;
                Due.same("cold " + cold + " high " + high, x.led(0, 0, 1, 4), due);
            }
        }
        // 30 a second of 30 a second: each second ends without water, and yet it throws 30 in each fourth.
        SpoutSpring x = Springs.with(Springs.line("neck t", "air", 0, 99, 30, 0, 30) + Springs.line("room b", "t", 9, 1, 0, 100, 1),
            Springs.CLOCK_LAWS, 0);
        x.high(30);
        Due.same("all 30", x.led(0, 0, 1, 4), 30);
        Due.same("for 99 plays", x.led(0, 0, 99, 396), 30);
        // "with their share": b has 2 grains of 50 each second; taking one takes half its WARMTH.
        x = Springs.with(Springs.line("neck t", "air", 0, 99, 30, 0, 30) + Springs.line("room b", "t", 9, 2, 0, 100, 2),
            "boil 76; lift 5;", 0);
        Due.same("more than 100 + 100 never is", x.led(0, 1, 1, 1000), 0);
        Due.laws(x, "boil 75; lift 5;");
        Due.same("100 + 100 is, at last", x.led(0, 1, 1, 1000), 1);
        Due.laws(x, "boil 60; lift 5;");
        Due.same("100 + 50 is not 170", x.led(0, 1, 1, 2), 0);
        Due.same("100 + 50 + 25 is", x.led(0, 1, 1, 3), 1);
    }

    /** "RING what 0: f, 1: L; NONE likewise." */
    private static void ringArguments() {
        int[] badWhats = {-1, 2, MIN, MAX};
        for (int shelf = 0; shelf < 4; shelf++) {
            SpoutSpring x = new SpoutSpring();
            Due.same("an empty shelf: f", x.ring(shelf, 1, 0), 0);
            Due.same("an empty shelf: L", x.ring(shelf, 1, 1), 1);
            Due.spring(x, shelf, Springs.GEYSER);
            for (int n = 1; n <= 12; n++) {
                Due.same("f of " + n, x.ring(shelf, n, 0), n < 5 ? -1 : 2);
                Due.same("L of " + n, x.ring(shelf, n, 1), n < 5 ? -1 : 3);
            }
            Due.same("f of 1000", x.ring(shelf, 1000, 0), 2);
            Due.same("L of 1000", x.ring(shelf, 1000, 1), 3);
            for (int bad : badWhats) {
                Due.same("what " + bad, x.ring(shelf, 9, bad), -1);
            }
            for (int bad : BAD_SHELVES) {
                Due.same("shelf " + bad, x.ring(bad, 9, 0), -1);
            }
            for (int bad : BAD_SECONDS) {
                Due.same("seconds " + bad, x.ring(shelf, bad, 0), -1);
                Due.same("seconds " + bad, x.ring(shelf, bad, 1), -1);
            }
        }
    }

    /** "the least SECOND f (0: all empty) so that water and WARMTH .. come again L SECONDS later, f + L no more than n". */
    private static void ringUpToN() {
        // WARMTH is 10 + s behind second s; when warm is above t, the next second leaves 0: f is 1, L is t + 2.
        String hearth = Springs.line("room a", "air", 0, 1, 0, 1, 1);
        int[] tops = {20, 100, 500, 900, 995, 996, 997};
        for (int top : tops) {
            SpoutSpring x = Springs.with(hearth, "boil 999; cool (warm > " + top + ") * 999;", 10);
            Due.same("f, n as is needed", x.ring(0, top + 3, 0), 1);
            Due.same("L, n as is needed", x.ring(0, top + 3, 1), top + 2);
            Due.same("f, one less", x.ring(0, top + 2, 0), -1);
            Due.same("L, one less", x.ring(0, top + 2, 1), -1);
            Due.same("L of 1000", x.ring(0, 1000, 1), top + 2);
        }
        // Two grains from second 2 on: WARMTH is 20 + s; from 0 it comes to 22 again in second 999 or 1001.
        SpoutSpring y = Springs.with(hearth.replace("holds 1", "holds 2"), "boil 999; cool (warm > 497) * 999;", 10);
        Due.same("f of a thousand", y.ring(0, 1000, 0), 2);
        Due.same("L of a thousand", y.ring(0, 1000, 1), 997);
        Due.same("of 998", y.ring(0, 998, 1), -1);
        Due.laws(y, "boil 999; cool (warm > 498) * 999;");
        Due.same("in 1001 alone: f", y.ring(0, 1000, 0), -1);
        Due.same("in 1001 alone: L", y.ring(0, 1000, 1), -1);
        SpoutSpring x = clock();
        Due.same("all empty again: f", x.ring(0, 4, 0), 0);
        Due.same("all empty again: L", x.ring(0, 4, 1), 4);
        Due.same("all empty is the least: f", x.ring(0, 1000, 0), 0);
        Due.same("all empty is the least: L", x.ring(0, 1000, 1), 4);
        Due.same("all empty, a second less", x.ring(0, 3, 0), -1);
        // Water comes again, WARMTH does not.
        Due.spring(x, 0, Springs.line("room a", "air", 0, 9, 0, 0, 9));
        Due.laws(x, "boil 999;");
        Due.same("full and cold", x.ring(0, 2, 0), 1);
        Due.spring(x, 0, Springs.line("room a", "air", 0, 9, 0, 1, 9));
        Due.same("full and warmer", x.ring(0, 1000, 0), -1);
        // One room alone does not come again.
        Due.spring(x, 0, Springs.line("room b", "air", 0, 9, 0, 0, 9) + Springs.line("room a", "air", 0, 9, 0, 1, 9));
        Due.same("the other one is warmer", x.ring(0, 1000, 0), -1);
    }

    /** "if a ROOM has so much more WARMTH (1 .. 999)"; "NONE likewise." */
    private static void partsArguments() {
        int[] badRooms = {-1, 2, 7, 8, MIN, MAX};
        int[] badWarmths = {0, -1, 1000, MIN, MAX};
        for (int shelf = 0; shelf < 4; shelf++) {
            SpoutSpring x = new SpoutSpring();
            x.cold(0);
            Due.laws(x, Springs.CLOCK_LAWS);
            Due.same("no room yet", x.parts(shelf, 0, 100, 8), -1);
            Due.spring(x, shelf, Springs.CLOCK);
            Due.same("100", x.parts(shelf, 1, 100, 8), 1);
            Due.same("999", x.parts(shelf, 1, 999, 8), 1);
            Due.same("1", x.parts(shelf, 1, 1, 8), -1);
            Due.same("999 to the other", x.parts(shelf, 0, 1, 8), -1);
            Due.same("1000 seconds", x.parts(shelf, 1, 100, 1000), 1);
            Due.same("one second", x.parts(shelf, 1, 999, 1), -1);
            for (int bad : BAD_SHELVES) {
                Due.same("shelf " + bad, x.parts(bad, 1, 100, 8), -1);
            }
            for (int bad : badRooms) {
                Due.same("room " + bad, x.parts(shelf, bad, 100, 8), -1);
            }
            for (int bad : badWarmths) {
                Due.same("warmth " + bad, x.parts(shelf, 1, bad, 8), -1);
            }
            for (int bad : BAD_SECONDS) {
                Due.same("seconds " + bad, x.parts(shelf, 1, 100, bad), -1);
            }
            Due.same("it is no warmer", x.room(shelf, 1, 1, 1), 100);
        }
    }

    /** "the first PLAY (from 1) whose first SECOND is another one, .. (none if all in n SECONDS are alike, by number too)". */
    private static void partsEdges() {
        // GEYSER's c has 600 behind second 1 and 1100 behind 2, its BOIL comes to 110 * 10: with 50 more it spouts in 3 all the same.
        SpoutSpring x = Springs.with(Springs.GEYSER, "", 10);
        for (int n = 1; n <= 30; n++) {
            Due.same("of " + n, x.parts(0, 1, 60, n), n < 5 ? -1 : 2);
        }
        // The clock with 100 more spouts in 3, not 4: another first SECOND from 4 on, one more PLAY in 3.
        x = clock();
        Due.same("neither in 2", x.parts(0, 1, 100, 2), -1);
        Due.same("one more in 3", x.parts(0, 1, 100, 3), 1);
        Due.same("another one in 4", x.parts(0, 1, 100, 4), 1);
        // The WARMTH comes behind second 1, also to a room without water: it is there in second 2.
        String dry = Springs.CLOCK.replace("cold 1 up t", "cold 0 up t");
        Due.spring(x, 0, dry);
        Due.same("no water, no steam", x.parts(0, 1, 999, 1000), -1);
        // Less PLAYS than without are another number too: t boils away, so there is but 2 to throw in second 4.
        Due.spring(x, 0, Springs.CLOCK);
        Due.laws(x, "boil 350 - (depth = 0) * 300; lift 30;");
        Due.same("t's water boils away", x.parts(0, 0, 999, 4), 1);
        Due.same("neither in 3", x.parts(0, 0, 999, 3), -1);
        Due.same("a play in 4 on trial", x.stolen(0, 4), 0);
        Due.same("it is not there in the next trial", x.parts(0, 0, 999, 4), 1);
    }

    // ---- GAP and about

    /** "g SECONDS (0 .. 2,000)"; "waits from a to b and lengths from c to d (1 .. 999 each)". */
    private static void gapArguments() {
        SpoutSpring x = new SpoutSpring();
        int[] good = {5, 5, 5, 3, 3};
        int[] bad = {0, -1, 1000, 1001, MIN, MAX};
        for (int what = 0; what < 2; what++) {
            Due.same("one wait", x.gap(5, 5, 5, 3, 3, what), 0);
            for (int i = 1; i < 5; i++) {
                for (int b : bad) {
                    int[] n = good.clone();
                    n[i] = b;
                    Due.same("number " + i + " " + b, x.gap(n[0], n[1], n[2], n[3], n[4], what), -1);
                }
            }
            Due.same("b below a", x.gap(5, 5, 4, 3, 3, what), -1);
            Due.same("a above b", x.gap(5, 6, 5, 3, 3, what), -1);
            Due.same("d below c", x.gap(5, 5, 5, 3, 2, what), -1);
            Due.same("c above d", x.gap(5, 5, 5, 4, 3, what), -1);
            Due.same("1 and 999", x.gap(999, 1, 999, 1, 999, what), what == 0 ? 0 : 499);
            Due.same("999 all", x.gap(999, 999, 999, 999, 999, what), 0);
            Due.same("998 of 999", x.gap(998, 999, 999, 999, 999, what), -1);
            Due.same("1 all", x.gap(1, 1, 1, 1, 1, what), 0);
            Due.same("no seconds, no wait fits", x.gap(0, 1, 999, 1, 999, what), -1);
            Due.same("2000 by two waits of 999 and a length of 2", x.gap(2000, 999, 999, 2, 2, what), 1);
            Due.same("2000 of ones is even", x.gap(2000, 1, 1, 1, 1, what), -1);
            Due.same("1999 of ones", x.gap(1999, 1, 1, 1, 1, what), 999);
            Due.same("2000 by waits to 2", x.gap(2000, 1, 2, 1, 1, what), what == 0 ? 666 : 999);
            Due.same("2001", x.gap(2001, 1, 2, 1, 1, what), -1);
            Due.same("-1", x.gap(-1, 1, 2, 1, 1, what), -1);
            Due.same("MAX", x.gap(MAX, 1, 999, 1, 999, what), -1);
            Due.same("MIN", x.gap(MIN, 1, 999, 1, 999, what), -1);
        }
        int[] badWhats = {-1, 2, MIN, MAX};
        for (int what : badWhats) {
            Due.same("what " + what, x.gap(5, 5, 5, 3, 3, what), -1);
        }
    }

    /** "(waits and lengths one behind the other just fill it)": tried one behind the other. */
    private static void gapsJustFilled() {
        SpoutSpring x = new SpoutSpring();
        int[][] stretches = {{1, 1}, {1, 3}, {2, 2}, {2, 5}, {4, 4}, {7, 9}};
        for (int[] waits : stretches) {
            for (int[] lengths : stretches) {
                for (int g = 0; g <= 40; g++) {
                    int fewest = -1;
                    int most = -1;
                    boolean[] ends = new boolean[g + 1];
                    mark(ends, 0, waits);
                    for (int plays = 0; plays <= g; plays++) {
                        if (ends[g]) {
                            fewest = fewest < 0 ? plays : fewest;
                            most = plays;
                        }
                        ends = next(next(ends, lengths), waits);
                    }
                    String of = " of " + g + " by " + waits[0] + " " + waits[1] + " " + lengths[0] + " " + lengths[1];
                    Due.same("fewest" + of, x.gap(g, waits[0], waits[1], lengths[0], lengths[1], 0), fewest);
                    Due.same("most" + of, x.gap(g, waits[0], waits[1], lengths[0], lengths[1], 1), most);
                }
            }
        }
    }

    /** Marks where a stretch from one place on can end. */
    private static void mark(boolean[] ends, int from, int[] stretch) {
        for (int i = from + stretch[0]; i <= from + stretch[1] && i < ends.length; i++) {
            ends[i] = true;
        }
    }

    private static boolean[] next(boolean[] begins, int[] stretch) {
        boolean[] ends = new boolean[begins.length];
        for (int from = 0; from < begins.length; from++) {
            if (begins[from]) {
                mark(ends, from, stretch);
            }
        }
        return ends;
    }

    /** "What 0 .. 3: ROOMS .., 4 .. 7: JOINS .., 8 .. 12 ..; NONE for another what." */
    private static void aboutNumbers() {
        SpoutSpring x = new SpoutSpring();
        String two = Springs.line("room a", "air", 0, 9, 0, 0, 1) + Springs.line("room b", "air", 0, 9, 0, 0, 1);
        for (int shelf = 0; shelf < 4; shelf++) {
            Due.spring(x, shelf, two + "join a b wide 1;".repeat(shelf + 1)
                + (shelf > 1 ? Springs.line("room c", "air", 0, 9, 0, 0, 1) : ""));
        }
        Due.laws(x, "boil 1;lift 2;");
        for (int i = 0; i < 5; i++) {
            x.sight(1, 1);
        }
        for (int i = 0; i < 6; i++) {
            x.log(1, 1, true);
        }
        x.later(77);
        x.feed(0, 0, 0, 0, 0);
        x.end(13);
        int[] due = {2, 2, 3, 3, 1, 2, 3, 4, 2, 5, 6, 77, 13};
        for (int what = 0; what < due.length; what++) {
            Due.same("about " + what, x.about(what), due[what]);
        }
        int[] bad = {-1, 13, 14, MIN, MAX};
        for (int what : bad) {
            Due.same("about " + what, x.about(what), -1);
        }
    }

    // ---- all of them

    /** What was only tried (without JOINS, with grains led away, shaken, years later) is not there for the next call. */
    private static void askedBehindOneAnother() {
        String joined = Springs.CLOCK + Springs.line("room c", "air", 0, 99, 0, 0, 0) + "join t c wide 30;";
        for (int first = 0; first < 5; first++) {
            SpoutSpring x = Springs.with(joined, Springs.CLOCK_LAWS, 0);
            x.log(4, 4, true);
            for (int i = 0; i < 5; i++) {
                switch ((first + i) % 5) {
                    case 0:
                        Due.same("without joins it plays", x.stolen(0, 4), 1);
                        break;
                    case 1:
                        Due.same("with them it does not, whatever is led", x.led(0, 0, 1, 4), -1);
                        break;
                    case 2:
                        Due.same("nor by another wide", x.shook(0, 0), -1);
                        break;
                    case 3:
                        Due.same("nor in the first year", x.years(0, 4), 1);
                        break;
                    default:
                        Due.same("nor with more warmth", x.parts(0, 1, 100, 4), -1);
                }
            }
            Due.same("no play", x.plays(0, 4), 0);
        }
        SpoutSpring x = clock();
        Due.same("taken: two of t's each second", x.led(0, 0, 1, 4), 1);
        Due.same("none is taken any more", x.stolen(0, 8), 0);
        Due.same("none is taken any more", x.parts(0, 1, 1, 8), -1);
        Due.same("for years", x.years(0, 4), 7);
        Due.same("the necks are as they were", x.stolen(0, 8), 0);
        Due.same("the necks are as they were", x.led(0, 0, 2, 8), 1);
    }

    /** ROOMS 0 .. 7: the clock answers alike wherever its two ROOMS stand among eight. */
    private static void roomsUpTo8() {
        for (int ahead = 0; ahead <= 6; ahead++) {
            StringBuilder text = new StringBuilder();
            for (int i = 0; i < 7; i++) {
                text.append(i == ahead ? Springs.CLOCK : Springs.line("room " + (char) ('c' + i), "air", 3, 9, 4, 5, 0));
            }
            SpoutSpring x = new SpoutSpring();
            x.cold(0);
            Due.laws(x, Springs.CLOCK_LAWS);
            Due.same("eight rooms", Due.spring(x, 2, text.toString()), 8);
            Due.same("there", x.book(2, 3, 3), 6 + 1);
            Due.same("there behind 1000", x.book(2, 1000, 3), 0);
            Due.same("b's warmth", x.room(2, 3, ahead + 1, 1), 300);
            Due.same("plays", x.plays(2, 1000), 200);
            Due.same("f", x.ring(2, 1000, 0), 0);
            Due.same("L", x.ring(2, 1000, 1), 4);
            Due.same("stolen", x.stolen(2, 1000), 0);
            Due.same("years", x.years(2, 100), 7);
            Due.same("led", x.led(2, ahead, 1, 4), 1);
            Due.same("led from the eighth", x.led(2, 7, 1, 4), ahead == 6 ? 0 : 30);
            Due.same("parts", x.parts(2, ahead + 1, 100, 8), 1);
            Due.same("parts by the eighth", x.parts(2, 7, 999, 8), ahead == 6 ? 1 : -1);
            Due.same("thread", x.thread(6, 0), ahead + 1);
            x.log(4, 4, true);
            Due.same("fits", x.fits(), 4);
            x.log(5, 5, true);
            Due.same("shook by none", x.shook(2, 0), -1);
            x.clear();
            x.log(4, 4, false);
            Due.same("shook", x.shook(2, 0), ahead);
            Due.same("shook wide", x.shook(2, 1), 4);
        }
    }

    /** A change that comes late in one ROOM alone, while all the others come again: what is only tried has it as well. */
    private static void slowChanges() {
        for (int ahead = 0; ahead <= 6; ahead++) {
            // d's WARMTH rises by 1 a second: at 950 it steams, and s gives 30 at once.
            StringBuilder text = new StringBuilder(Springs.line("neck s", "air", 0, 30, 30, 0, 30));
            for (int i = 0; i < 7; i++) {
                text.append(i == ahead ? Springs.line("room d", "s", 9, 1, 0, 1, 1)
                    : Springs.line("room " + (char) ('e' + i), "air", 3, 9, 4, 0, 2));
            }
            SpoutSpring x = Springs.with(text.toString(), "boil 900; lift 30;", 0);
            Due.same("one play", x.plays(0, 1000), 1);
            Due.same("its second", x.play(0, 1000, 0, 0), 950);
            Due.same("on trial as well", x.stolen(0, 1000), 0);
            Due.same("led", x.led(0, 0, 1, 1000), 30);
            Due.same("sooner by a second", x.parts(0, ahead + 1, 1, 1000), 1);
            Due.same("in the tenth year", x.years(0, 95), 1);
        }
        // The second that comes again threw less when it was first: 2, then 10 each.
        SpoutSpring x = Springs.with(Springs.line("neck t", "air", 0, 20, 30, 0, 10) + Springs.line("room b", "t", 9, 1, 0, 400, 1),
            "boil 350; lift above - 8;", 0);
        Due.same("thrown in 1", x.book(0, 1, 4), 2);
        Due.same("thrown in 2", x.book(0, 2, 4), 10);
        Due.same("f", x.ring(0, 9, 0), 1);
        Due.same("L", x.ring(0, 9, 1), 1);
        Due.same("it begins in 2", x.play(0, 50, 0, 0), 2);
        Due.same("on trial as well", x.stolen(0, 50), 0);
        Due.same("and parts by nothing", x.parts(0, 0, 1, 50), -1);
        // WARMTH rises in all eight at once.
        StringBuilder all = new StringBuilder(Springs.line("neck s", "air", 0, 30, 30, 1, 30));
        for (char name = 'a'; name <= 'g'; name++) {
            all.append(Springs.line("room " + name, "s", 9, 1, 0, 1, 1));
        }
        x = Springs.with(all.toString(), "boil 900; lift 30;", 0);
        Due.same("it begins in 950", x.play(0, 1000, 0, 0), 950);
        Due.same("on trial as well", x.stolen(0, 1000), 0);
        // All empty and cold again, though not what it was a while ago.
        x = Springs.with(Springs.line("neck t", "air", 0, 99, 30, 0, 1) + Springs.line("room b", "t", 9, 1, 0, 400, 1),
            "boil 350; lift (above > 20) * 30;", 0);
        Due.same("each 21 seconds", x.plays(0, 1000), 47);
        Due.same("on trial as well", x.stolen(0, 1000), 0);
        // Water that rises by 1 a second in a ROOM that is the first or the last, with LIFT by it.
        String[] rooms = {Springs.line("neck t", "air", 0, 99, 30, 0, 1), Springs.line("room b", "t", 9, 1, 0, 400, 1)};
        for (int inert = 0; inert <= 6; inert++) {
            StringBuilder text = new StringBuilder();
            for (int i = 0; i < inert; i++) {
                text.append(Springs.line("room " + (char) ('e' + i), "air", 3, 9, 4, 0, 2));
            }
            x = Springs.with(text + rooms[0] + rooms[1], "boil 350; lift (above > 70) * 30;", 0);
            Due.same("it begins in 71", x.play(0, 1000, 0, 0), 71);
            Due.same("on trial as well", x.stolen(0, 1000), 0);
            Due.same("of no seconds more", x.stolen(0, 71), 0);
        }
    }
}
