import java.util.ArrayList;
import java.util.List;
import java.util.Random;

/** Long mixed runs of calls, each answer compared with the plain model's; the seeds are fixed. */
public final class ModelTest {
    private static final String[] KINDS = {"room", "neck", "pool"};
    private static final String[] NAMES = {"a", "b", "n", "deep", "old", "faithful", "geyser", "zz", "roomy", "q"};

    private final Random random;
    private final SpoutSpring x = new SpoutSpring();
    private final Model m = new Model();
    private final String run;

    private ModelTest(int seed) {
        random = new Random(seed);
        run = "run " + seed + ": ";
    }

    public static void main(String[] args) {
        int runs = args.length > 0 ? Integer.parseInt(args[0]) : 120;
        int first = args.length > 1 ? Integer.parseInt(args[1]) : 1;
        for (int seed = first; seed < first + runs; seed++) {
            ModelTest test = new ModelTest(seed);
            if (seed % 3 == 0) {
                test.texts();
            } else if (seed % 3 == 1) {
                test.courses();
            } else {
                test.sights();
            }
        }
        Due.finish("ModelTest");
    }

    private int upTo(int most) {
        return random.nextInt(most + 1);
    }

    private boolean chance(int ofHundred) {
        return random.nextInt(100) < ofHundred;
    }

    /** Mostly from least to most, now and then just beyond. */
    private int around(int least, int most) {
        if (chance(4)) {
            return chance(50) ? least - 1 : most + 1;
        }
        return least + upTo(most - least);
    }

    // ---- texts

    private String blank() {
        return chance(85) ? " " : chance(50) ? "\n" : "  ";
    }

    private String gap() {
        return chance(70) ? "" : blank();
    }

    private String springText(boolean wild) {
        int rooms = wild ? upTo(9) : 1 + upTo(7);
        StringBuilder text = new StringBuilder();
        List<Integer> depths = new ArrayList<>();
        int start = upTo(NAMES.length - 1);
        int joins = 0;
        for (int r = 0; r < rooms; r++) {
            int up = r == 0 || chance(15) ? -1 : upTo(r - 1);
            int depth = up < 0 ? upTo(10) : Math.min(60, depths.get(up) + 1 + upTo(9));
            if (wild && chance(3)) {
                depth = upTo(62);
            }
            depths.add(depth);
            String[] words = {KINDS[upTo(2)], name(start, r, wild), "depth", "" + depth,
                "holds", "" + number(1, chance(60) ? 25 : 99, wild), "wide", "" + number(0, 30, wild), "hot",
                "" + (chance(40) ? 0 : number(0, 999, wild)), "cold", "" + number(0, chance(70) ? 6 : 30, wild), "up",
                up < 0 ? "air" : name(start, up, wild)};
            text.append(String.join(blank(), words)).append(gap()).append(";").append(gap());
            while (r > 0 && chance(25) && joins < (wild ? 5 : 4)) {
                int one = upTo(r);
                int other = wild ? upTo(r) : (one + 1 + upTo(r - 1)) % (r + 1);
                text.append("join").append(blank()).append(name(start, one, wild)).append(blank());
                text.append(name(start, other, wild)).append(" wide ").append(number(0, 30, wild)).append(gap()).append(";");
                joins++;
            }
        }
        return text.toString();
    }

    private String name(int start, int r, boolean wild) {
        return wild && chance(1) ? NAMES[upTo(NAMES.length - 1)] : NAMES[(start + r) % NAMES.length];
    }

    private int number(int least, int most, boolean wild) {
        return wild && chance(2) ? most + 1 + upTo(10) : least + upTo(most - least);
    }

    private String law(int depth) {
        int kind = depth <= 0 ? upTo(5) : upTo(13);
        switch (kind) {
            case 0:
                return "" + (chance(5) ? 9999 : upTo(200));
            case 1:
                return "depth";
            case 2:
                return "above";
            case 3:
                return "water";
            case 4:
                return "warm";
            case 5:
                return "" + upTo(9);
            case 6:
                return "(" + gap() + law(depth - 1) + ")";
            case 7:
                return "not " + law(depth - 1);
            default:
                String[] signs = {"+", "-", "*", "/", "<", ">", "=", " or ", " and "};
                return law(depth - 1) + gap() + signs[upTo(8)] + gap() + law(depth - 1);
        }
    }

    private String plainLaw(String word) {
        String[] boil = {"90 + above * 2", "100 + depth + above", "120 - (water > 5) * 30", "above / 2 + 60",
            "(warm > 80) * 40 + 70", "100 + above - depth * above / 60"};
        String[] lift = {"1 + water / 4", "3", "2 + (above > 10 or warm > 90)", "depth / 9", "4 - (water < 3)"};
        String[] cool = {"water", "(warm > 60) * 35", "depth + above", "warm - 20", "9 * (not water)"};
        String[] of = word.equals("boil") ? boil : word.equals("lift") ? lift : cool;
        return of[upTo(of.length - 1)];
    }

    private String lawsText(boolean wild) {
        StringBuilder text = new StringBuilder();
        String[] words = {"boil", "lift", "cool"};
        for (int i = 0; i < 3; i++) {
            if (chance(60)) {
                String word = wild ? words[upTo(2)] : words[i];
                String law = wild || chance(30) ? law(wild ? 5 : 3) : plainLaw(word);
                text.append(word).append(blank()).append(law).append(gap()).append(";").append(gap());
            }
        }
        return text.toString();
    }

    private String spoilt(String text) {
        StringBuilder spoilt = new StringBuilder(text);
        int changes = 1 + upTo(1);
        for (int i = 0; i < changes && spoilt.length() > 0; i++) {
            int at = upTo(spoilt.length() - 1);
            String signs = " \n;()<>=+-*/azx0159A\t\u0000\u00e9_,room air not and";
            switch (upTo(3)) {
                case 0:
                    spoilt.deleteCharAt(at);
                    break;
                case 1:
                    spoilt.insert(at, signs.charAt(upTo(signs.length() - 1)));
                    break;
                case 2:
                    spoilt.setCharAt(at, signs.charAt(upTo(signs.length() - 1)));
                    break;
                default:
                    spoilt.setLength(at);
            }
        }
        return spoilt.toString();
    }

    private void write(String text) {
        for (int i = 0; i < text.length(); i += 20) {
            int[] n = new int[5];
            for (int j = 0; j < 5; j++) {
                n[j] = Due.four(text, i + 4 * j);
            }
            Due.same(run + "feed", x.feed(n[0], n[1], n[2], n[3], n[4]), m.feed(n));
        }
        Due.same(run + "end", x.end(text.length()), m.end(text.length()));
    }

    private void readSpring(String text, int shelf) {
        write(text);
        Due.same(run + "spring " + shelf + " " + text, x.spring(shelf), m.spring(shelf));
        faults(text);
    }

    private void readLaws(String text) {
        write(text);
        Due.same(run + "laws " + text, x.laws(), m.laws());
        faults(text);
    }

    private void faults(String text) {
        for (int what = -1; what < 3; what++) {
            Due.same(run + "fault " + what + " of " + text, x.fault(what), m.fault(what));
        }
    }

    private void texts() {
        for (int i = 0; i < 24; i++) {
            boolean wild = chance(60);
            String text = springText(wild);
            readSpring(chance(50) ? spoilt(text) : text, upTo(4));
            x.end(0);
            m.end(0);
            String laws = lawsText(true);
            readLaws(chance(40) ? spoilt(laws) : laws);
            x.end(0);
            m.end(0);
            int shelf = upTo(3);
            for (int r = 0; r < 3; r++) {
                int what = upTo(3);
                int n = upTo(6);
                Due.same(run + "room", x.room(shelf, n, r, what), m.room(shelf, n, r, what));
            }
        }
        abouts();
    }

    private void abouts() {
        for (int what = -1; what <= 13; what++) {
            Due.same(run + "about " + what, x.about(what), m.about(what));
        }
    }

    // ---- courses

    private void courses() {
        for (int shelf = 0; shelf < 4; shelf++) {
            if (chance(80)) {
                readSpring(springText(false), shelf);
            }
        }
        if (chance(40)) {
            readSpring(m.springs.isEmpty() ? "" : springText(false), 0);
        }
        for (int round = 0; round < 3; round++) {
            if (chance(70)) {
                readLaws(lawsText(false));
            }
            int cold = around(0, 99);
            Due.same(run + "cold", x.cold(cold) ? 1 : 0, m.cold(cold) ? 1 : 0);
            int high = chance(70) ? around(1, 12) : around(1, 99);
            Due.same(run + "high", x.high(high) ? 1 : 0, m.high(high) ? 1 : 0);
            for (int i = 0; i < 45; i++) {
                oneCourse();
            }
            logsOfCourse();
        }
        abouts();
    }

    private void oneCourse() {
        int shelf = around(0, 3);
        int n = chance(30) ? around(1, 1000) : around(1, 60);
        int room = chance(20) ? around(0, 7) : upTo(2);
        int what = around(0, 4);
        String at = run + "shelf " + shelf + " n " + n + " room " + room + " what " + what + " ";
        switch (upTo(9)) {
            case 0:
                Due.same(at + "room", x.room(shelf, n, room, what), m.room(shelf, n, room, what));
                break;
            case 1:
                Due.same(at + "book", x.book(shelf, n, what), m.book(shelf, n, what));
                break;
            case 2:
                Due.same(at + "plays", x.plays(shelf, n), m.plays(shelf, n));
                break;
            case 3:
                int i = chance(70) ? upTo(4) : around(0, 200);
                Due.same(at + "play " + i, x.play(shelf, n, i, what), m.play(shelf, n, i, what));
                break;
            case 4:
                Due.same(at + "stolen", x.stolen(shelf, n), m.stolen(shelf, n));
                break;
            case 5:
                int year = around(1, 100);
                Due.same(at + "years " + year, x.years(shelf, year), m.years(shelf, year));
                break;
            case 6:
                int there = m.plays(shelf, n);
                int plays = chance(30) ? around(1, 99) : Math.max(1, there - 3 + upTo(5));
                Due.same(at + "led " + plays, x.led(shelf, room, plays, n), m.led(shelf, room, plays, n));
                break;
            case 7:
                Due.same(at + "ring", x.ring(shelf, n, what - 1), m.ring(shelf, n, what - 1));
                break;
            case 8:
                int warmth = around(1, 999);
                Due.same(at + "parts", x.parts(shelf, room, warmth, n), m.parts(shelf, room, warmth, n));
                break;
            default:
                int shelves = around(0, 15);
                Due.same(at + "thread " + shelves, x.thread(shelves, what), m.thread(shelves, what));
        }
    }

    private void logsOfCourse() {
        int logs = upTo(chance(20) ? 45 : 6);
        int like = upTo(3);
        for (int i = 0; i < logs; i++) {
            int from = around(1, 500);
            int to = Math.min(chance(90) ? 500 : 501, from + upTo(chance(80) ? 12 : 200) - (chance(3) ? 30 : 0));
            boolean played = chance(50);
            if (chance(60) && m.plays(like, 500) > 0) {
                from = m.play(like, 500, upTo(m.plays(like, 500) - 1), 0);
                to = Math.min(500, from + upTo(3));
                played = chance(85);
            }
            Due.same(run + "log", x.log(from, to, played), m.log(from, to, played));
        }
        Due.same(run + "fits", x.fits(), m.fits());
        int shelf = around(0, 3);
        for (int what = -1; what < 4; what++) {
            Due.same(run + "shook " + shelf + " " + what, x.shook(shelf, what), m.shook(shelf, what));
        }
        if (chance(50)) {
            Due.same(run + "clear", x.clear(), m.clear());
        }
    }

    // ---- sights and gaps

    private void sights() {
        int sights = chance(20) ? 62 : 1 + upTo(14);
        int spread = chance(50) ? 999 : 120;
        for (int i = 0; i < sights; i++) {
            int length = chance(50) ? around(1, 99) : 1 + upTo(5);
            int wait = chance(10) ? around(0, 999) : upTo(spread);
            Due.same(run + "sight", x.sight(length, wait), m.sight(length, wait));
            if (chance(30)) {
                int by = chance(80) ? upTo(3) : around(0, 1000);
                Due.same(run + "later", x.later(by), m.later(by));
            }
            if (chance(15)) {
                int sight = around(0, i);
                Due.same(run + "untell", x.untell(sight) ? 1 : 0, m.untell(sight) ? 1 : 0);
            }
        }
        for (int i = 0; i < 6; i++) {
            int classes = chance(10) ? around(1, 4) : 1 + upTo(2);
            int share = chance(40) ? 100 : around(0, 100);
            int k = chance(50) ? m.time : upTo(m.time + 2) - 1;
            String at = run + "of " + classes + " share " + share + " k " + k + " ";
            Due.same(at + "span", x.span(classes, share, k), m.span(classes, share, k));
            int length = around(1, 99);
            Due.same(at + "board " + length, x.board(classes, share, length, k), m.board(classes, share, length, k));
        }
        for (int i = 0; i < 40; i++) {
            int g = chance(50) ? upTo(60) : around(0, 2000);
            int most = chance(70) ? 12 : 999;
            int[] waits = {around(1, most), 0};
            waits[1] = chance(90) ? waits[0] + upTo(4) : around(1, most);
            int[] lengths = {around(1, most), 0};
            lengths[1] = chance(90) ? lengths[0] + upTo(4) : around(1, most);
            int what = chance(90) ? upTo(1) : around(0, 1);
            Due.same(run + "gap " + g, x.gap(g, waits[0], waits[1], lengths[0], lengths[1], what),
                m.gap(g, waits, lengths, what));
        }
        abouts();
    }
}
