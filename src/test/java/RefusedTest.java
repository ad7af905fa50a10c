import java.util.ArrayList;
import java.util.List;
import java.util.function.ToIntFunction;

/** What later calls answer behind a call that was refused: just what they would have answered without it. */
public final class RefusedTest {
    private static final int MIN = Integer.MIN_VALUE;
    private static final int MAX = Integer.MAX_VALUE;

    private record Call(String name, int due, ToIntFunction<SpoutSpring> call) {
    }

    private RefusedTest() {
    }

    public static void main(String[] args) {
        List<Call> calls = new ArrayList<>();
        texts(calls);
        told(calls);
        asked(calls);
        askedMore(calls);
        for (Call one : calls) {
            leavesAll(one);
        }
        refusedTexts();
        fullTape();
        fullSightsAndLogs();
        Due.finish("RefusedTest");
    }

    private static void add(List<Call> calls, String name, int due, ToIntFunction<SpoutSpring> call) {
        calls.add(new Call(name, due, call));
    }

    private static int one(boolean yes) {
        return yes ? 1 : 0;
    }

    private static void texts(List<Call> calls) {
        int[] bad = {-1, 8, 900, MIN, MAX};
        for (int n : bad) {
            add(calls, "end " + n, -1, x -> x.end(n));
            add(calls, "fault " + n, -1, x -> x.fault(n));
        }
        int[] shelves = {-1, 4, MIN, MAX};
        for (int shelf : shelves) {
            add(calls, "spring " + shelf, -2, x -> x.spring(shelf));
        }
    }

    private static void told(List<Call> calls) {
        int[] bad = {-1, 1001, MIN, MAX};
        for (int n : bad) {
            add(calls, "cold " + n, 0, x -> one(x.cold(n)));
            add(calls, "high " + n, 0, x -> one(x.high(n)));
            add(calls, "later " + n, -1, x -> x.later(n));
            add(calls, "untell " + n, 0, x -> one(x.untell(n)));
            add(calls, "sight of length " + n, -1, x -> x.sight(n, 5));
            add(calls, "sight of wait " + n, -1, x -> x.sight(5, n));
            add(calls, "log from " + n, -1, x -> x.log(n, 9, true));
            add(calls, "log to " + n, -1, x -> x.log(9, n, false));
        }
        add(calls, "cold 100", 0, x -> one(x.cold(100)));
        add(calls, "high 100", 0, x -> one(x.high(100)));
        add(calls, "high 0", 0, x -> one(x.high(0)));
        add(calls, "untell again", 0, x -> one(x.untell(1)));
        add(calls, "untell 4", 0, x -> one(x.untell(4)));
        add(calls, "sight 0 5", -1, x -> x.sight(0, 5));
        add(calls, "sight 100 5", -1, x -> x.sight(100, 5));
        add(calls, "sight 5 1000", -1, x -> x.sight(5, 1000));
        add(calls, "log 0 5", -1, x -> x.log(0, 5, true));
        add(calls, "log 5 4", -1, x -> x.log(5, 4, true));
        add(calls, "log 5 501", -1, x -> x.log(5, 501, true));
    }

    private static void asked(List<Call> calls) {
        int[] bad = {-1, 1001, MIN, MAX};
        for (int n : bad) {
            add(calls, "room of shelf " + n, -1, x -> x.room(n, 3, 0, 0));
            add(calls, "room of second " + n, -1, x -> x.room(0, n, 0, 0));
            add(calls, "room " + n, -1, x -> x.room(0, 3, n, 0));
            add(calls, "room what " + n, -1, x -> x.room(0, 3, 0, n));
            add(calls, "book of shelf " + n, -1, x -> x.book(n, 3, 0));
            add(calls, "book of second " + n, -1, x -> x.book(0, n, 0));
            add(calls, "book what " + n, -1, x -> x.book(0, 3, n));
            add(calls, "plays of shelf " + n, -1, x -> x.plays(n, 9));
            add(calls, "plays of seconds " + n, -1, x -> x.plays(0, n));
            add(calls, "play of shelf " + n, -1, x -> x.play(n, 9, 0, 0));
            add(calls, "play of seconds " + n, -1, x -> x.play(0, n, 0, 0));
            add(calls, "play " + n, -1, x -> x.play(0, 9, n, 0));
            add(calls, "play what " + n, -1, x -> x.play(0, 9, 0, n));
            add(calls, "span of rows " + n, -1, x -> x.span(n, 50, 3));
            add(calls, "span of share " + n, -1, x -> x.span(2, n, 3));
            add(calls, "board of rows " + n, -1, x -> x.board(n, 50, 5, 3));
            add(calls, "board of share " + n, -1, x -> x.board(2, n, 5, 3));
            add(calls, "board of length " + n, -1, x -> x.board(2, 50, n, 3));
        }
    }

    private static void askedMore(List<Call> calls) {
        int[] bad = {-1, 2001, MIN, MAX};
        for (int n : bad) {
            add(calls, "thread " + n, -1, x -> x.thread(n, 0));
            add(calls, "thread what " + n, -1, x -> x.thread(3, n));
            add(calls, "shook " + n, -1, x -> x.shook(n, 0));
            add(calls, "shook what " + n, -1, x -> x.shook(0, n));
            add(calls, "stolen " + n, -1000, x -> x.stolen(n, 9));
            add(calls, "stolen of seconds " + n, -1000, x -> x.stolen(0, n));
            add(calls, "years " + n, -1, x -> x.years(n, 9));
            add(calls, "years of seconds " + n, -1, x -> x.years(0, n));
            add(calls, "led of shelf " + n, -1, x -> x.led(n, 0, 1, 9));
            add(calls, "led of room " + n, -1, x -> x.led(0, n, 1, 9));
            add(calls, "led of plays " + n, -1, x -> x.led(0, 0, n, 9));
            add(calls, "led of seconds " + n, -1, x -> x.led(0, 0, 1, n));
            add(calls, "ring of shelf " + n, -1, x -> x.ring(n, 9, 0));
            add(calls, "ring of seconds " + n, -1, x -> x.ring(0, n, 0));
            add(calls, "ring what " + n, -1, x -> x.ring(0, 9, n));
            add(calls, "parts of shelf " + n, -1, x -> x.parts(n, 0, 9, 9));
            add(calls, "parts of room " + n, -1, x -> x.parts(0, n, 9, 9));
            add(calls, "parts of warmth " + n, -1, x -> x.parts(0, 0, n, 9));
            add(calls, "parts of seconds " + n, -1, x -> x.parts(0, 0, 9, n));
            add(calls, "gap of " + n, -1, x -> x.gap(n, 1, 2, 3, 4, 0));
            add(calls, "gap a " + n, -1, x -> x.gap(5, n, 9, 3, 4, 0));
            add(calls, "gap b " + n, -1, x -> x.gap(5, 1, n, 3, 4, 0));
            add(calls, "gap c " + n, -1, x -> x.gap(5, 1, 9, n, 4, 0));
            add(calls, "gap d " + n, -1, x -> x.gap(5, 1, 9, 3, n, 0));
            add(calls, "gap what " + n, -1, x -> x.gap(5, 1, 9, 3, 4, n));
            add(calls, "about " + n, -1, x -> x.about(n));
        }
    }

    /** Something on each shelf, laws, sights, logs, a fault and seven bytes on the tape. */
    private static SpoutSpring filled() {
        SpoutSpring x = new SpoutSpring();
        Due.spring(x, 0, Springs.CLOCK);
        Due.spring(x, 1, Springs.GEYSER + "join n c wide 1;");
        Due.spring(x, 3, Springs.POND);
        Due.laws(x, "boil 200 + above; lift 20; cool warm / 9;");
        x.cold(20);
        x.high(4);
        x.sight(3, 50);
        x.sight(4, 90);
        x.later(2);
        x.sight(70, 200);
        x.untell(1);
        x.later(1);
        x.sight(71, 230);
        x.log(3, 6, true);
        x.log(4, 5, false);
        Due.spring(x, 2, "room a depth 0 holds 0");
        x.feed(0x626f696c, 0x20373b20, 0, 0, 0);
        x.end(7);
        return x;
    }

    private static int[] seen(SpoutSpring x) {
        int[] seen = new int[120];
        int i = 0;
        for (int what = 0; what < 13; what++) {
            seen[i++] = x.about(what);
        }
        for (int shelf = 0; shelf < 4; shelf++) {
            for (int what = 0; what < 4; what++) {
                seen[i++] = x.room(shelf, 5, 0, what);
            }
            for (int what = 0; what < 5; what++) {
                seen[i++] = x.book(shelf, 20, what);
            }
            seen[i++] = x.plays(shelf, 60);
            seen[i++] = x.play(shelf, 60, 1, 0);
            seen[i++] = x.play(shelf, 60, 1, 2);
            seen[i++] = x.ring(shelf, 200, 1);
            seen[i++] = x.stolen(shelf, 50);
            seen[i++] = x.years(shelf, 9);
            seen[i++] = x.shook(shelf, 1);
            seen[i++] = x.led(shelf, 0, 2, 40);
            seen[i++] = x.parts(shelf, 0, 90, 40);
        }
        for (int k = 0; k < 4; k++) {
            seen[i++] = x.span(2, 80, k);
            seen[i++] = x.board(2, 80, 4, k);
            seen[i++] = x.board(2, 80, 71, k);
        }
        seen[i++] = x.fits();
        seen[i++] = x.thread(15, 1);
        seen[i++] = x.fault(0);
        seen[i++] = x.fault(1);
        // The tape itself comes last, since this takes it.
        seen[i++] = x.laws();
        return seen;
    }

    private static void same(String behind, int[] got, int[] want) {
        for (int i = 0; i < want.length; i++) {
            Due.same("answer " + i + " behind " + behind, got[i], want[i]);
        }
    }

    private static void leavesAll(Call one) {
        SpoutSpring x = filled();
        Due.same(one.name() + " on a new object", one.call().applyAsInt(new SpoutSpring()), one.due());
        Due.same(one.name(), one.call().applyAsInt(x), one.due());
        Due.same(one.name() + " again", one.call().applyAsInt(x), one.due());
        same(one.name(), seen(x), seen(filled()));
    }

    /** A text with a FAULT takes the tape and tells its fault; all else is as it was. */
    private static void refusedTexts() {
        String[] texts = {"room", "room a depth 61", Springs.GEYSER + "join n n wide 1;", "%", "boil"};
        int[][] faults = {{2, 4}, {4, 13}, {6, Springs.GEYSER.length() + 7}, {1, 0}, {2, 4}};
        for (int i = 0; i < texts.length; i++) {
            for (int shelf = 0; shelf < 5; shelf++) {
                SpoutSpring x = filled();
                x.end(0);
                // The fifth time the text is told as laws.
                int got = shelf < 4 ? Due.spring(x, shelf, texts[i]) : Due.laws(x, texts[i]);
                Due.same("a fault of " + texts[i], got, -1);
                Due.same("the tape is empty", x.about(12), 0);
                if (shelf < 4 && i < 4) {
                    Due.same("the fault of " + texts[i], x.fault(0), faults[i][0]);
                    Due.same("the place of " + texts[i], x.fault(1), faults[i][1]);
                }
                Due.spring(x, 2, "room a depth 0 holds 0");
                Due.write(x, "boil 7;");
                same("the text " + texts[i], seen(x), seen(filled()));
            }
        }
    }

    /** "NONE, and nothing comes"; "-2, and the TAPE stays: more than 300 bytes". */
    private static void fullTape() {
        SpoutSpring x = filled();
        x.end(0);
        Due.write(x, "boil 7;");
        for (int i = 0; i < 44; i++) {
            Due.same("feed", x.feed(0x20202020, 0x20202020, 0x20202020, 0x20202020, 0x20202020), 27 + 20 * i);
        }
        Due.same("a feed too many", x.feed(1, 1, 1, 1, 1), -1);
        Due.same("laws of 887 bytes", x.laws(), -2);
        Due.same("887 stay", x.about(12), 887);
        Due.same("end", x.end(301), 301);
        Due.same("laws of 301 bytes", x.laws(), -2);
        Due.same("end", x.end(7), 7);
        same("a full tape", seen(x), seen(filled()));
    }

    /** "NONE, doing nothing, if .. there are 60", ".. 40"; ".. if it would be above 100,000". */
    private static void fullSightsAndLogs() {
        SpoutSpring x = full();
        Due.same("a 61st sight", x.sight(1, 999), -1);
        Due.same("a 41st log", x.log(1, 500, false), -1);
        Due.same("above 100,000", x.later(1000), -1);
        Due.same("above 100,000 by one", x.later(992), -1);
        Due.no("no 61st to untell", x.untell(60));
        same("a full object", seen(x), seen(full()));
    }

    private static SpoutSpring full() {
        SpoutSpring x = filled();
        for (int i = 4; i < 60; i++) {
            x.sight(i, 10 * i);
        }
        for (int i = 2; i < 40; i++) {
            x.log(i, i + 5, true);
        }
        for (int i = 0; i < 99; i++) {
            x.later(1000);
        }
        x.later(6);
        return x;
    }
}
