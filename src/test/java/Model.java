import java.util.ArrayList;
import java.util.Arrays;
import java.util.HashSet;
import java.util.List;
import java.util.Set;

/**
 * The document once more, as slowly and plainly as can be, for ModelTest to compare with.
 * It keeps nothing between calls but what was told, and goes through every course anew.
 */
final class Model {
    static final List<String> RESERVED = Arrays.asList("room", "neck", "pool", "depth", "holds", "wide", "hot",
        "cold", "up", "air", "join", "boil", "lift", "cool", "or", "and", "not", "above", "water", "warm");

    static final class Fault extends RuntimeException {
        private static final long serialVersionUID = 1L;
        final int what;
        final int place;

        Fault(int what, int place) {
            super(null, null, false, false);
            this.what = what;
            this.place = place;
        }
    }

    record Token(String text, int place, boolean bad) {
        boolean isNumber() {
            return !bad && !text.isEmpty() && Character.isDigit(text.charAt(0));
        }

        boolean isName() {
            return !bad && !text.isEmpty() && text.charAt(0) >= 'a' && text.charAt(0) <= 'z' && !RESERVED.contains(text);
        }

        boolean is(String word) {
            return !bad && text.equals(word);
        }
    }

    record Room(String kind, String name, int depth, int holds, int wide, int hot, int cold, int up) {
    }

    record Join(int one, int other, int wide) {
    }

    interface Law {
        int at(int depth, int above, int water, int warm);
    }

    record Play(int first, int length, int greatest) {
    }

    record Sight(int length, int waited, int told, int[] untold) {
    }

    record Log(int from, int to, boolean played) {
    }

    /** What may be changed about a course, and what it left. */
    final class Run {
        final List<Room> rooms;
        final List<Join> joins;
        final int[] wide;
        final int[] water;
        final int[] warmth;
        int ledRoom = -1;
        int ledGrains = 0;
        int thrown = 0;
        int in = 0;
        int out = 0;
        int steamed = 0;

        Run(int shelf, boolean joined) {
            rooms = springs.get(shelf);
            joins = joined ? shelfJoins.get(shelf) : new ArrayList<>();
            wide = rooms.stream().mapToInt(Room::wide).toArray();
            water = new int[rooms.size()];
            warmth = new int[rooms.size()];
        }

        int above(int r) {
            int up = rooms.get(r).up();
            return up < 0 ? 0 : water[up] + above(up);
        }

        int warm(int r) {
            return water[r] == 0 ? 0 : warmth[r] / water[r];
        }

        int law(int which, int r) {
            int a = above(r);
            Law law = laws[which];
            int asked = law != null ? law.at(rooms.get(r).depth(), a, water[r], warm(r))
                : which == 0 ? 100 + a : which == 1 ? 2 : 0;
            int least = which == 0 ? 1 : 0;
            int most = which == 1 ? 30 : 999;
            return asked < least ? least : asked > most ? most : asked;
        }

        int share(int r, int grains) {
            return water[r] == 0 ? 0 : (int) ((long) warmth[r] * grains / water[r]);
        }

        void second() {
            thrown = 0;
            int n = rooms.size();
            int[] cool = new int[n];
            for (int r = 0; r < n; r++) {
                cool[r] = law(2, r);
            }
            for (int r = 0; r < n; r++) {
                for (int g = 0; g < rooms.get(r).cold() && water[r] < rooms.get(r).holds(); g++) {
                    water[r]++;
                    in++;
                    warmth[r] += coldWarmth;
                }
                warmth[r] += water[r] > 0 ? rooms.get(r).hot() : 0;
                warmth[r] = warmth[r] < cool[r] ? 0 : warmth[r] - cool[r];
            }
            for (Join join : joins) {
                if (water[join.one()] > water[join.other()]) {
                    pour(join.one(), join.other(), join.wide());
                } else {
                    pour(join.other(), join.one(), join.wide());
                }
            }
            int[] steam = new int[n];
            int[] boil = new int[n];
            int[] lift = new int[n];
            for (int r = 0; r < n; r++) {
                boil[r] = law(0, r);
                lift[r] = law(1, r);
                if (water[r] > 0 && warmth[r] > boil[r] * water[r]) {
                    steam[r] = Math.min(water[r], (warmth[r] - boil[r] * water[r]) / 50);
                }
            }
            for (int r = n - 1; r >= 0; r--) {
                int lost = 0;
                while (lost < steam[r] && water[r] > 0) {
                    lost++;
                    water[r]--;
                    steamed++;
                    warmth[r] = Math.max(0, warmth[r] - boil[r] - 50);
                }
                for (int u = rooms.get(r).up(); u >= 0; u = rooms.get(u).up()) {
                    give(u, lift[r] * lost);
                }
            }
            for (int r = 0; r < n; r++) {
                if (rooms.get(r).kind().equals("pool") && water[r] == rooms.get(r).holds()) {
                    int gone = water[r] - water[r] / 2;
                    warmth[r] -= share(r, gone);
                    water[r] -= gone;
                    out += gone;
                }
            }
            if (ledRoom >= 0) {
                int gone = Math.min(ledGrains, water[ledRoom]);
                warmth[ledRoom] -= share(ledRoom, gone);
                water[ledRoom] -= gone;
            }
        }

        void pour(int from, int to, int most) {
            int grains = Math.min(most, (water[from] - water[to]) / 2);
            grains = Math.min(grains, rooms.get(to).holds() - water[to]);
            int share = share(from, grains);
            water[from] -= grains;
            warmth[from] -= share;
            water[to] += grains;
            warmth[to] += share;
        }

        void give(int giver, int many) {
            int given = Math.min(Math.min(many, wide[giver]), water[giver]);
            if (given == 0) {
                return;
            }
            int share = share(giver, given);
            water[giver] -= given;
            warmth[giver] -= share;
            int taker = rooms.get(giver).up();
            int taken = taker < 0 ? 0 : Math.min(given, rooms.get(taker).holds() - water[taker]);
            if (taker >= 0) {
                water[taker] += taken;
                warmth[taker] += (int) ((long) share * taken / given);
            }
            thrown += given - taken;
            out += given - taken;
        }

        List<Integer> state() {
            List<Integer> all = new ArrayList<>();
            for (int r = 0; r < rooms.size(); r++) {
                all.add(water[r]);
                all.add(warmth[r]);
            }
            return all;
        }

        List<Play> plays(int n) {
            int[] row = new int[n + 1];
            for (int s = 1; s <= n; s++) {
                second();
                row[s] = thrown;
            }
            return playsOf(row);
        }
    }

    final StringBuilder tape = new StringBuilder();
    final List<List<Room>> springs = new ArrayList<>();
    final List<List<Join>> shelfJoins = new ArrayList<>();
    Law[] laws = new Law[3];
    int lawLines = 0;
    int coldWarmth = 10;
    int highGrains = 5;
    int faultKind = 0;
    int faultPlace = -1;
    final List<Sight> sights = new ArrayList<>();
    final List<Log> logs = new ArrayList<>();
    int time = 0;

    private List<Token> tokens = new ArrayList<>();
    private int at = 0;
    private int units = 0;

    Model() {
        for (int shelf = 0; shelf < 4; shelf++) {
            springs.add(new ArrayList<>());
            shelfJoins.add(new ArrayList<>());
        }
    }

    List<Play> playsOf(int[] row) {
        List<Play> found = new ArrayList<>();
        for (int s = 1; s < row.length; s++) {
            if (row[s] >= highGrains && (s == 1 || row[s - 1] < highGrains)) {
                int length = 0;
                int greatest = 0;
                for (int t = s; t < row.length && row[t] >= highGrains; t++) {
                    length++;
                    greatest = Math.max(greatest, row[t]);
                }
                found.add(new Play(s, length, greatest));
            }
        }
        return found.size() > 200 ? found.subList(0, 200) : found;
    }

    // ---- texts

    private void partText(String text) {
        tokens = new ArrayList<>();
        at = 0;
        int i = 0;
        while (i < text.length()) {
            char c = text.charAt(i);
            int j = i + 1;
            boolean bad = false;
            if (c == ' ' || c == '\n') {
                i++;
                continue;
            } else if (c >= 'a' && c <= 'z') {
                while (j < text.length() && text.charAt(j) >= 'a' && text.charAt(j) <= 'z') {
                    j++;
                }
                bad = j - i > 8;
            } else if (c >= '0' && c <= '9') {
                while (j < text.length() && text.charAt(j) >= '0' && text.charAt(j) <= '9') {
                    j++;
                }
                bad = j - i > 4 || j < text.length() && text.charAt(j) >= 'a' && text.charAt(j) <= 'z';
            } else {
                bad = ";()<>=+-*/".indexOf(c) < 0;
            }
            tokens.add(new Token(text.substring(i, j), i, bad));
            i = j;
        }
        tokens.add(new Token("", text.length(), false));
    }

    private Token now() {
        return tokens.get(at);
    }

    private Fault fault(int what) {
        return new Fault(now().bad() ? 1 : what, now().place());
    }

    private void take(String word) {
        if (!now().is(word)) {
            throw fault(2);
        }
        at++;
    }

    private int number(String word, int least, int most) {
        take(word);
        if (!now().isNumber()) {
            throw fault(2);
        }
        int n = Integer.parseInt(now().text());
        if (n < least || n > most) {
            throw fault(4);
        }
        at++;
        return n;
    }

    private int known(List<Room> rooms) {
        if (!now().isName()) {
            throw fault(2);
        }
        for (int r = 0; r < rooms.size(); r++) {
            if (rooms.get(r).name().equals(now().text())) {
                return r;
            }
        }
        throw fault(5);
    }

    private void readSpring(List<Room> rooms, List<Join> joins) {
        while (!now().is("")) {
            String kind = now().text();
            boolean isRoom = now().is("room") || now().is("neck") || now().is("pool");
            if (isRoom && rooms.size() < 8) {
                at++;
                if (!now().isName()) {
                    throw fault(2);
                }
                String name = now().text();
                if (rooms.stream().anyMatch(r -> r.name().equals(name))) {
                    throw fault(3);
                }
                at++;
                int depth = number("depth", 0, 60);
                int holds = number("holds", 1, 99);
                int wide = number("wide", 0, 30);
                int hot = number("hot", 0, 999);
                int cold = number("cold", 0, 30);
                take("up");
                int up = -1;
                if (!now().is("air")) {
                    up = known(rooms);
                    if (rooms.get(up).depth() >= depth) {
                        throw fault(6);
                    }
                }
                at++;
                take(";");
                rooms.add(new Room(kind, name, depth, holds, wide, hot, cold, up));
            } else if (now().is("join") && joins.size() < 4) {
                at++;
                int one = known(rooms);
                at++;
                int other = known(rooms);
                if (one == other) {
                    throw fault(6);
                }
                at++;
                int wide = number("wide", 0, 30);
                take(";");
                joins.add(new Join(one, other, wide));
            } else {
                throw fault(2);
            }
        }
    }

    private int readLaws(Law[] read) {
        units = 0;
        int lines = 0;
        while (!now().is("")) {
            int which = now().bad() ? -1 : Arrays.asList("boil", "lift", "cool").indexOf(now().text());
            if (which < 0 || read[which] != null) {
                throw fault(2);
            }
            at++;
            read[which] = either(0);
            take(";");
            lines++;
        }
        return lines;
    }

    private static int flag(boolean yes) {
        return yes ? 1 : 0;
    }

    private Law either(int within) {
        Law left = both(within);
        while (now().is("or")) {
            at++;
            Law l = left;
            Law r = both(within);
            left = (d, a, w, m) -> flag(l.at(d, a, w, m) != 0 || r.at(d, a, w, m) != 0);
        }
        return left;
    }

    private Law both(int within) {
        Law left = one(within);
        while (now().is("and")) {
            at++;
            Law l = left;
            Law r = one(within);
            left = (d, a, w, m) -> flag(l.at(d, a, w, m) != 0 && r.at(d, a, w, m) != 0);
        }
        return left;
    }

    private Law one(int within) {
        if (now().is("not")) {
            if (within >= 7) {
                throw fault(2);
            }
            at++;
            Law e = one(within + 1);
            return (d, a, w, m) -> flag(e.at(d, a, w, m) == 0);
        }
        Law l = sum(within);
        String sign = now().text();
        if (now().is("<") || now().is(">") || now().is("=")) {
            at++;
            Law r = sum(within);
            return (d, a, w, m) -> {
                int order = Integer.compare(l.at(d, a, w, m), r.at(d, a, w, m));
                return flag(sign.equals("<") ? order < 0 : sign.equals(">") ? order > 0 : order == 0);
            };
        }
        return l;
    }

    private Law sum(int within) {
        Law left = term(within);
        while (now().is("+") || now().is("-")) {
            int sign = now().is("+") ? 1 : -1;
            at++;
            Law l = left;
            Law r = term(within);
            left = (d, a, w, m) -> l.at(d, a, w, m) + sign * r.at(d, a, w, m);
        }
        return left;
    }

    private Law term(int within) {
        Law left = unit(within);
        while (now().is("*") || now().is("/")) {
            boolean times = now().is("*");
            at++;
            Law l = left;
            Law r = unit(within);
            left = (d, a, w, m) -> {
                int x = l.at(d, a, w, m);
                int y = r.at(d, a, w, m);
                return times ? x * y : y == 0 ? 0 : (int) ((long) x / y);
            };
        }
        return left;
    }

    private Law unit(int within) {
        Token t = now();
        boolean known = t.isNumber() || t.is("depth") || t.is("above") || t.is("water") || t.is("warm") || t.is("(");
        if (!known || units >= 40 || t.is("(") && within >= 7) {
            throw fault(2);
        }
        units++;
        at++;
        if (t.isNumber()) {
            int n = Integer.parseInt(t.text());
            return (d, a, w, m) -> n;
        }
        switch (t.text()) {
            case "depth":
                return (d, a, w, m) -> d;
            case "above":
                return (d, a, w, m) -> a;
            case "water":
                return (d, a, w, m) -> w;
            case "warm":
                return (d, a, w, m) -> m;
            default:
                Law e = either(within + 1);
                take(")");
                return e;
        }
    }

    // ---- the face

    int feed(int... numbers) {
        if (tape.length() + 20 > 900) {
            return -1;
        }
        for (int n : numbers) {
            for (int shift = 24; shift >= 0; shift -= 8) {
                tape.append((char) (n >> shift & 255));
            }
        }
        return tape.length();
    }

    int end(int n) {
        if (n < 0 || n > tape.length()) {
            return -1;
        }
        tape.setLength(n);
        return n;
    }

    int spring(int shelf) {
        if (shelf < 0 || shelf > 3) {
            return -2;
        }
        partText(tape.toString());
        tape.setLength(0);
        List<Room> rooms = new ArrayList<>();
        List<Join> joins = new ArrayList<>();
        try {
            readSpring(rooms, joins);
        } catch (Fault f) {
            faultKind = f.what;
            faultPlace = f.place;
            return -1;
        }
        faultKind = 0;
        faultPlace = -1;
        springs.set(shelf, rooms);
        shelfJoins.set(shelf, joins);
        return rooms.size();
    }

    int laws() {
        if (tape.length() > 300) {
            return -2;
        }
        partText(tape.toString());
        tape.setLength(0);
        Law[] read = new Law[3];
        try {
            lawLines = readLaws(read);
        } catch (Fault f) {
            faultKind = f.what;
            faultPlace = f.place;
            return -1;
        }
        faultKind = 0;
        faultPlace = -1;
        laws = read;
        return lawLines;
    }

    int fault(int... what) {
        return what[0] == 0 ? faultKind : what[0] == 1 ? faultPlace : -1;
    }

    boolean cold(int warmth) {
        boolean can = warmth >= 0 && warmth <= 99;
        coldWarmth = can ? warmth : coldWarmth;
        return can;
    }

    boolean high(int grains) {
        boolean can = grains >= 1 && grains <= 99;
        highGrains = can ? grains : highGrains;
        return can;
    }

    private static boolean out(int x, int least, int most) {
        return x < least || x > most;
    }

    private boolean noRoom(int shelf, int room) {
        return out(shelf, 0, 3) || out(room, 0, springs.get(shelf).size() - 1);
    }

    int room(int shelf, int n, int room, int what) {
        if (noRoom(shelf, room) || out(n, 0, 1000) || out(what, 0, 3)) {
            return -1;
        }
        Run run = new Run(shelf, true);
        for (int s = 0; s < n; s++) {
            run.second();
        }
        return what == 0 ? run.water[room] : what == 1 ? run.warmth[room] : what == 2 ? run.warm(room) : run.law(0, room);
    }

    int book(int shelf, int n, int what) {
        if (out(shelf, 0, 3) || out(n, 0, 1000) || out(what, 0, 4)) {
            return -1;
        }
        Run run = new Run(shelf, true);
        for (int s = 0; s < n; s++) {
            run.second();
        }
        int there = Arrays.stream(run.water).sum();
        if (run.in != run.out + run.steamed + there) {
            return -99999;
        }
        return what == 0 ? run.in : what == 1 ? run.out : what == 2 ? run.steamed : what == 3 ? there : run.thrown;
    }

    int plays(int shelf, int n) {
        return out(shelf, 0, 3) || out(n, 1, 1000) ? -1 : new Run(shelf, true).plays(n).size();
    }

    int play(int shelf, int n, int i, int what) {
        if (out(shelf, 0, 3) || out(n, 1, 1000) || out(what, 0, 3)) {
            return -1;
        }
        List<Play> plays = new Run(shelf, true).plays(n);
        if (out(i, 0, plays.size() - 1)) {
            return -1;
        }
        Play p = plays.get(i);
        if (what == 3) {
            return i == 0 ? -1 : p.first() - (plays.get(i - 1).first() + plays.get(i - 1).length());
        }
        return what == 0 ? p.first() : what == 1 ? p.length() : p.greatest();
    }

    int sight(int length, int wait) {
        if (out(length, 1, 99) || out(wait, 0, 999) || sights.size() == 60) {
            return -1;
        }
        sights.add(new Sight(length, wait, time, new int[] {-1}));
        return sights.size() - 1;
    }

    boolean untell(int sight) {
        if (out(sight, 0, sights.size() - 1) || sights.get(sight).untold()[0] >= 0) {
            return false;
        }
        sights.get(sight).untold()[0] = time;
        return true;
    }

    int later(int by) {
        if (out(by, 0, 1000) || time + by > 100000) {
            return -1;
        }
        time += by;
        return time;
    }

    /** The span, then the starts and the times of the rows; null without sights that count. */
    private int[] best(int classes, int share, int k) {
        List<Sight> count = new ArrayList<>();
        for (Sight s : sights) {
            if (s.told() <= k && !(s.untold()[0] >= 0 && s.untold()[0] <= k)) {
                count.add(s);
            }
        }
        if (count.isEmpty()) {
            return null;
        }
        for (int span = 0;; span++) {
            int[][] hits = new int[100][100];
            int[][] times = new int[100][100];
            weigh(count, span, hits, times);
            int[] most = new int[1 + 2 * classes];
            most[0] = -1;
            part(hits, new int[classes], 0, 0, most);
            if (most[0] * 100 >= share * count.size()) {
                for (int row = 0; row < classes; row++) {
                    int to = row == classes - 1 ? 99 : most[2 + row] - 1;
                    most[1 + classes + row] = times[most[1 + row]][to];
                }
                most[0] = span;
                return most;
            }
        }
    }

    private static void weigh(List<Sight> count, int span, int[][] hits, int[][] times) {
        for (int i = 1; i < 100; i++) {
            int[] at = new int[1000];
            for (int j = i; j < 100; j++) {
                hits[i][j] = j > i ? hits[i][j - 1] : 0;
                times[i][j] = j > i ? times[i][j - 1] : 0;
                boolean more = false;
                for (Sight s : count) {
                    if (s.length() == j) {
                        more = true;
                        for (int t = Math.max(0, s.waited() - span); t <= Math.min(999, s.waited() + span); t++) {
                            at[t]++;
                        }
                    }
                }
                for (int t = 0; more && t < 1000; t++) {
                    if (t == 0 || at[t] > hits[i][j]) {
                        hits[i][j] = at[t];
                        times[i][j] = t;
                    }
                }
            }
        }
    }

    /** Goes through all partings in the order of their starts; the first of the best stays. */
    private static void part(int[][] hits, int[] starts, int row, int sum, int[] most) {
        if (row == 0) {
            starts[0] = 1;
            part(hits, starts, 1, 0, most);
            return;
        }
        if (row == starts.length) {
            int all = sum + hits[starts[row - 1]][99];
            if (all > most[0]) {
                most[0] = all;
                System.arraycopy(starts, 0, most, 1, row);
            }
            return;
        }
        for (int s = starts[row - 1] + 1; s <= 99; s++) {
            starts[row] = s;
            part(hits, starts, row + 1, sum + hits[starts[row - 1]][s - 1], most);
        }
    }

    int span(int classes, int share, int k) {
        if (out(classes, 1, 4) || out(share, 0, 100)) {
            return -1;
        }
        int[] best = best(classes, share, k);
        return best == null ? 0 : best[0];
    }

    int board(int classes, int share, int length, int k) {
        if (out(classes, 1, 4) || out(share, 0, 100) || out(length, 1, 99)) {
            return -1;
        }
        int[] best = best(classes, share, k);
        if (best == null) {
            return -1;
        }
        int time = -1;
        for (int row = 0; row < classes; row++) {
            if (best[1 + row] <= length) {
                time = best[1 + classes + row];
            }
        }
        return time;
    }

    int log(int from, int to, boolean played) {
        if (from < 1 || to > 500 || to < from || logs.size() == 40) {
            return -1;
        }
        logs.add(new Log(from, to, played));
        return logs.size() - 1;
    }

    int clear() {
        int were = logs.size();
        logs.clear();
        return were;
    }

    private int alike(List<Play> plays) {
        int alike = 0;
        for (Log log : logs) {
            boolean any = plays.stream().anyMatch(p -> p.first() >= log.from() && p.first() <= log.to());
            alike += any == log.played() ? 1 : 0;
        }
        return alike;
    }

    int fits() {
        int bits = 0;
        for (int shelf = 0; shelf < 4; shelf++) {
            bits |= alike(new Run(shelf, true).plays(500)) == logs.size() ? 1 << shelf : 0;
        }
        return bits;
    }

    int thread(int shelves, int what) {
        if (out(shelves, 0, 15) || out(what, 0, 2)) {
            return -1;
        }
        List<Run> runs = new ArrayList<>();
        for (int shelf = 0; shelf < 4; shelf++) {
            if ((shelves & 1 << shelf) != 0) {
                runs.add(new Run(shelf, true));
            }
        }
        int[] best = {-1, -1, 1};
        for (int s = 1; s <= 200; s++) {
            runs.forEach(Run::second);
            for (int r = 0; r < 8; r++) {
                Set<Integer> values = new HashSet<>();
                for (Run run : runs) {
                    values.add(r < run.rooms.size() ? run.warm(r) : 0);
                }
                if (values.size() > best[2]) {
                    best = new int[] {r, s, values.size()};
                }
            }
        }
        return best[0] < 0 ? -1 : best[what];
    }

    int shook(int shelf, int what) {
        if (out(shelf, 0, 3) || out(what, 0, 2)) {
            return -1;
        }
        int without = alike(new Run(shelf, true).plays(500));
        int[] best = {-1, -1, without};
        for (int r = 0; r < springs.get(shelf).size(); r++) {
            int own = springs.get(shelf).get(r).wide();
            for (int w = 0; w <= 30; w++) {
                Run run = new Run(shelf, true);
                run.wide[r] = w;
                int now = alike(run.plays(500));
                boolean nearer = best[0] == r && Math.abs(w - own) < Math.abs(best[1] - own);
                if (now > best[2] || now == best[2] && nearer) {
                    best = new int[] {r, w, now};
                }
            }
        }
        return best[0] < 0 ? -1 : best[what];
    }

    int stolen(int shelf, int n) {
        if (out(shelf, 0, 3) || out(n, 1, 1000)) {
            return -1000;
        }
        return new Run(shelf, false).plays(n).size() - new Run(shelf, true).plays(n).size();
    }

    int years(int shelf, int n) {
        if (out(shelf, 0, 3) || out(n, 1, 100)) {
            return -1;
        }
        Run run = new Run(shelf, true);
        int before = 0;
        for (int year = 1; year <= 20; year++) {
            int begun = 0;
            for (int s = 0; s < n; s++) {
                run.second();
                begun += run.thrown >= highGrains && before < highGrains ? 1 : 0;
                before = run.thrown;
            }
            if (begun == 0) {
                return year;
            }
            for (int r = 0; r < run.wide.length; r++) {
                run.wide[r] -= run.rooms.get(r).kind().equals("neck") && run.wide[r] > 0 ? 1 : 0;
            }
        }
        return -1;
    }

    int led(int shelf, int room, int plays, int n) {
        if (noRoom(shelf, room) || out(plays, 1, 99) || out(n, 1, 1000)) {
            return -1;
        }
        int most = -1;
        for (int grains = 0; grains <= 30; grains++) {
            Run run = new Run(shelf, true);
            run.ledRoom = room;
            run.ledGrains = grains;
            most = run.plays(n).size() >= plays ? grains : most;
        }
        return most;
    }

    int ring(int shelf, int n, int what) {
        if (out(shelf, 0, 3) || out(n, 1, 1000) || out(what, 0, 1)) {
            return -1;
        }
        Run run = new Run(shelf, true);
        List<List<Integer>> states = new ArrayList<>();
        states.add(run.state());
        for (int s = 1; s <= n; s++) {
            run.second();
            int f = states.indexOf(run.state());
            if (f >= 0) {
                return what == 0 ? f : s - f;
            }
            states.add(run.state());
        }
        return -1;
    }

    int parts(int shelf, int room, int warmth, int n) {
        if (noRoom(shelf, room) || out(warmth, 1, 999) || out(n, 1, 1000)) {
            return -1;
        }
        List<Play> own = new Run(shelf, true).plays(n);
        Run run = new Run(shelf, true);
        int[] row = new int[n + 1];
        for (int s = 1; s <= n; s++) {
            run.second();
            row[s] = run.thrown;
            run.warmth[room] += s == 1 ? warmth : 0;
        }
        List<Play> other = playsOf(row);
        for (int i = 0; i < Math.max(own.size(), other.size()); i++) {
            if (i >= own.size() || i >= other.size() || own.get(i).first() != other.get(i).first()) {
                return i + 1;
            }
        }
        return -1;
    }

    int gap(int g, int[] waits, int[] lengths, int what) {
        if (out(g, 0, 2000) || out(what, 0, 1) || waits[0] > waits[1] || lengths[0] > lengths[1]
            || out(waits[0], 1, 999) || out(waits[1], 1, 999) || out(lengths[0], 1, 999) || out(lengths[1], 1, 999)) {
            return -1;
        }
        List<Integer> can = new ArrayList<>();
        for (int k = 0; k < 1002; k++) {
            if ((k + 1) * waits[0] + k * lengths[0] <= g && g <= (k + 1) * waits[1] + k * lengths[1]) {
                can.add(k);
            }
        }
        return can.isEmpty() ? -1 : what == 0 ? can.get(0) : can.get(can.size() - 1);
    }

    int about(int what) {
        if (what >= 0 && what < 4) {
            return springs.get(what).size();
        }
        if (what >= 4 && what < 8) {
            return shelfJoins.get(what - 4).size();
        }
        int[] rest = {lawLines, sights.size(), logs.size(), time, tape.length()};
        return what >= 8 && what < 13 ? rest[what - 8] : -1;
    }
}
