/**
 * The edges of a SECOND, of its laws and of a COURSE (the second part of "Terms", promises 7 to 12), sentence by
 * sentence: just enough and just too little, empty and full, nothing and all.
 */
public final class SecondEdgeTest {
    private static final int MIN = Integer.MIN_VALUE;
    private static final int MAX = Integer.MAX_VALUE;

    private SecondEdgeTest() {
    }

    public static void main(String[] args) {
        lawsWrap();
        lawsCutAndDivide();
        lawsOfTruth();
        lawsOfRooms();
        boilFrom1To999();
        liftFrom0To30();
        coolFrom0To999();
        coolByTheStepAhead();
        allAnew();
        coldWater();
        hotIfAnyWater();
        coldCalls();
        highCalls();
        highIsEnough();
        joinsHalf();
        joinsHold();
        joinsOneByOne();
        steamJustAbove();
        steamNoMoreThanWater();
        steamByThen();
        throwsWide();
        throwsToTheOneAbove();
        throwsSharesCut();
        poolsFull();
        roomArguments();
        bookArguments();
        booksBalance();
        playsArguments();
        playsAtTheEdges();
        playsOf200();
        Due.finish("SecondEdgeTest");
    }

    private static SpoutSpring with(String spring, String laws, int cold) {
        return Springs.with(spring, laws, cold);
    }

    private static void state(String what, SpoutSpring x, int n, int... due) {
        for (int i = 0; i < due.length; i++) {
            Due.same(what + ": second " + n + " room " + i / 2 + (i % 2 == 0 ? " water" : " warmth"),
                x.room(0, n, i / 2, i % 2), due[i]);
        }
    }

    // ---- laws

    private static void boil(String e, int due) {
        SpoutSpring x = with(Springs.POND, "boil " + e + ";", 10);
        Due.same("boil " + e, x.room(0, 0, 0, 3), due);
    }

    /** "Ints, wrapping". */
    private static void lawsWrap() {
        boil("9999*9999*21", 999);
        boil("9999*9999*22", 1);
        boil("8192*8192*32", 1);
        boil("8192*8192*32 - 1", 999);
        boil("8192*8192*32 - 1 + 1", 1);
        boil("0 - 8192*8192*32", 1);
        boil("0 - 8192*8192*32 - 1", 999);
        boil("8192*8192*32 + 8192*8192*32 + 7", 7);
        boil("8192*8192*64 + 5", 5);
        boil("5 + (8192*8192*32 < 0)", 6);
        boil("5 + (8192*8192*32 > 0)", 5);
        boil("5 + (8192*8192*32 - 1 > 8192*8192*32)", 6);
    }

    /** "/ is cut towards 0 (by 0: 0)". */
    private static void lawsCutAndDivide() {
        boil("10 + (0-7)/2", 7);
        boil("10 + 7/(0-2)", 7);
        boil("10 + (0-7)/(0-2)", 13);
        boil("10 + 1/2", 10);
        boil("10 + (0-1)/2", 10);
        boil("10 + 6/2", 13);
        boil("5 + 7/0", 5);
        boil("5 + 0/0", 5);
        boil("5 + (0-7)/0", 5);
        boil("5 + 7/(1-1)", 5);
        boil("5 + 7/0*3", 5);
        boil("8192*8192*32/(0-1)", 1);
        boil("8192*8192*32/(0-1)/8192/8192 + 40", 8);
        boil("0 - 7/2", 1);
        boil("20 - 7/2", 17);
        boil("100/7/2", 7);
        boil("100*3/7*2", 84);
    }

    /** "relations, and, or, not are 1 or 0, of what is not 0". */
    private static void lawsOfTruth() {
        int[] values = {-3, -1, 0, 1, 2, 9};
        for (int l : values) {
            String left = l < 0 ? "(0-" + -l + ")" : "" + l;
            boil("5 + (not " + left + ")", l == 0 ? 6 : 5);
            boil("5 + (not not " + left + ")", l == 0 ? 5 : 6);
            for (int r : values) {
                String right = r < 0 ? "(0-" + -r + ")" : "" + r;
                boil("5 + (" + left + " and " + right + ")", l != 0 && r != 0 ? 6 : 5);
                boil("5 + (" + left + " or " + right + ")", l != 0 || r != 0 ? 6 : 5);
                boil("5 + (" + left + "<" + right + ")", l < r ? 6 : 5);
                boil("5 + (" + left + ">" + right + ")", l > r ? 6 : 5);
                boil("5 + (" + left + "=" + right + ")", l == r ? 6 : 5);
            }
        }
        boil("5 + (0 and 0 or 1)", 6);
        boil("5 + (1 or 0 and 0)", 6);
        boil("5 + (not 1 or 1)", 6);
        boil("5 + (not 0 and 0)", 5);
        boil("5 + (not 1 = 2)", 6);
        boil("5 + (1 + 1 = 4 / 2)", 6);
    }

    /** "depth is its own, water what it has, warm its WARMTH / water (cut; 0 without water), above: all water ..". */
    private static void lawsOfRooms() {
        String deep = Springs.line("room a", "air", 3, 9, 0, 0, 1) + Springs.line("room b", "a", 5, 9, 0, 0, 2)
            + Springs.line("room c", "b", 7, 9, 0, 4, 3) + Springs.line("room d", "air", 60, 9, 0, 0, 9);
        SpoutSpring x = with(deep, "boil 500 + above;", 10);
        int[] above = {0, 1, 3, 0};
        for (int r = 0; r < 4; r++) {
            Due.same("nothing above at first " + r, x.room(0, 0, r, 3), 500);
            Due.same("above " + r, x.room(0, 1, r, 3), 500 + above[r]);
        }
        Due.laws(x, "boil depth + 1;");
        Due.same("depth 3", x.room(0, 0, 0, 3), 4);
        Due.same("depth 60", x.room(0, 0, 3, 3), 61);
        Due.laws(x, "boil 900 + water;");
        Due.same("water 3", x.room(0, 1, 2, 3), 903);
        Due.same("no water", x.room(0, 0, 2, 3), 900);
        Due.laws(x, "boil 500 + warm;");
        Due.same("34 / 3 is cut", x.room(0, 1, 2, 3), 511);
        Due.same("10", x.room(0, 1, 1, 3), 510);
        Due.same("without water", x.room(0, 0, 1, 3), 500);
        // All water gone, WARMTH left: warm is 0.
        x = with(Springs.line("room a", "air", 0, 5, 0, 999, 5), "", 0);
        state("all boiled away", x, 1, 0, 249);
        Due.same("warm of no water", x.room(0, 1, 0, 2), 0);
        Due.laws(x, "boil 100 + (water = 0) * warm;");
        Due.same("warm of no water in laws", x.room(0, 1, 0, 3), 100);
        Due.laws(x, "");
        Due.same("not told: 100 + above, of none", x.room(0, 0, 0, 3), 100);
        Due.spring(x, 0, deep);
        Due.same("not told: 100 + above", x.room(0, 1, 2, 3), 103);
    }

    /** "from 1 to 999: what is beyond is the nearest". */
    private static void boilFrom1To999() {
        boil("1", 1);
        boil("0", 1);
        boil("0-1", 1);
        boil("2", 2);
        boil("998", 998);
        boil("999", 999);
        boil("1000", 999);
        boil("9999", 999);
        // BOIL 999: 999 of WARMTH is not above it, 999 + 50 gives a grain of STEAM.
        String one = Springs.line("room a", "air", 0, 1, 0, 950, 1);
        SpoutSpring x = with(one, "boil 5000;", 98);
        Due.same("just too little for 999", x.book(0, 1, 2), 0);
        x.cold(99);
        Due.same("just enough for 999", x.book(0, 1, 2), 1);
        // BOIL 1 at least: of 51 comes a grain, of 50 none.
        x = with(Springs.line("room a", "air", 0, 1, 0, 0, 1), "boil 0 - 5000;", 50);
        Due.same("just too little for 1", x.book(0, 1, 2), 0);
        x.cold(51);
        Due.same("just enough for 1", x.book(0, 1, 2), 1);
        state("it takes 51", x, 1, 0, 0);
    }

    /** "LIFT lift's (0 .. 30; 2)". */
    private static void liftFrom0To30() {
        String spring = Springs.line("neck t", "air", 0, 99, 30, 0, 30) + Springs.line("room b", "t", 9, 1, 0, 500, 1);
        int[][] due = {{0, 0}, {1, 1}, {2, 2}, {29, 29}, {30, 30}};
        for (int[] d : due) {
            Due.same("lift " + d[0], with(spring, "boil 300; lift " + d[0] + ";", 0).book(0, 1, 4), d[1]);
        }
        Due.same("lift below 0", with(spring, "boil 300; lift 0 - 9;", 0).book(0, 1, 4), 0);
        Due.same("lift far below 0", with(spring, "boil 300; lift 8192*8192*32;", 0).book(0, 1, 4), 0);
        Due.same("lift 31", with(spring, "boil 300; lift 31;", 0).book(0, 1, 4), 30);
        Due.same("lift 9999", with(spring, "boil 300; lift 9999;", 0).book(0, 1, 4), 30);
        Due.same("lift not told", with(spring, "boil 300;", 0).book(0, 1, 4), 2);
        // Two grains of STEAM by a LIFT that wraps if it is not held to 30.
        String two = spring.replace("holds 1 wide 0 hot 500 cold 1", "holds 2 wide 0 hot 999 cold 2");
        Due.same("two by lift 14", with(two, "boil 300; lift 14;", 0).book(0, 1, 4), 28);
        Due.same("a huge lift", with(two, "boil 300; lift 8192*8192*32 - 1;", 0).book(0, 1, 4), 30);
    }

    /** "COOL cool's (0 .. 999; 0)"; "COOL is taken from its WARMTH (0 at least)". */
    private static void coolFrom0To999() {
        int[][] due = {{0, 30}, {1, 29}, {29, 1}, {30, 0}, {31, 0}, {999, 0}, {9999, 0}};
        for (int[] d : due) {
            state("cool " + d[0], with(Springs.POND, "cool " + d[0] + ";", 10), 1, 3, d[1]);
        }
        state("cool below 0", with(Springs.POND, "cool 0 - 7;", 10), 1, 3, 30);
        state("cool not told", with(Springs.POND, "", 10), 1, 3, 30);
        state("not below 0 in all", with(Springs.POND, "cool 31 - water;", 10), 2, 6, 2);
        String hot = Springs.line("room a", "air", 0, 99, 0, 999, 30);
        state("cool 998", with(hot, "cool 998; boil 999;", 10), 1, 30, 301);
        state("cool 999", with(hot, "cool 999; boil 999;", 10), 1, 30, 300);
        state("cool 1000", with(hot, "cool 1000; boil 999;", 10), 1, 30, 300);
    }

    /** "laws are asked by what the step ahead left": (a) asks ahead of its own water, (c) behind (b). */
    private static void coolByTheStepAhead() {
        String two = Springs.line("room a", "air", 0, 9, 0, 0, 3) + Springs.line("room b", "a", 5, 9, 0, 0, 1);
        SpoutSpring x = with(two, "cool above;", 10);
        state("nothing above ahead of second 1", x, 1, 3, 30, 1, 10);
        state("three above ahead of second 2", x, 2, 6, 60, 2, 17);
        Due.laws(x, "cool 1 + warm;");
        state("warm 0 ahead of second 1", x, 1, 3, 29, 1, 9);
        state("warm 9 ahead of second 2", x, 2, 6, 49, 2, 9);
        // (d) comes behind (c): a pool of 3 leaves 1, which is above b ahead of the next SECOND.
        x = with(Springs.line("pool a", "air", 0, 3, 0, 0, 3) + Springs.line("room b", "a", 5, 9, 0, 0, 1), "cool above * 3;", 10);
        state("nothing above ahead of second 1", x, 1, 1, 10, 1, 10);
        state("one above ahead of second 2", x, 2, 1, 10, 2, 17);
        state("again", x, 3, 1, 10, 3, 24);
        // Joins move the water that (c) asks by: a gives 4 of 9 to b.
        String joined = Springs.line("room a", "air", 0, 9, 0, 0, 9) + Springs.line("room b", "a", 5, 9, 0, 900, 1)
            + "join a b wide 30;";
        x = with(joined, "boil (water = 5) * 100 + (above = 5) * 30 + 50;", 10);
        // BOIL of b is 180 (water 5, above 5); its WARMTH 910 + 40: (950 - 900) / 50 = 1.
        Due.same("steam by what the joins left", x.book(0, 1, 2), 1);
    }

    /** Other laws, another COLD, another SPRING: all SECONDS anew, from all empty. */
    private static void allAnew() {
        String pool = Springs.line("pool a", "air", 0, 9, 0, 0, 3) + Springs.line("room b", "a", 5, 9, 0, 400, 2)
            + Springs.line("room c", "b", 7, 9, 0, 300, 1) + "join b c wide 3;";
        String[] springs = {Springs.GEYSER, pool, Springs.CLOCK, Springs.GEYSER, Springs.JET, Springs.POND, ""};
        String[] laws = {"", "cool above; lift 3;", "boil 90 + above; cool water;", "cool warm / 3;", ""};
        SpoutSpring x = new SpoutSpring();
        for (int i = 0; i < 12; i++) {
            int cold = i * 31 % 100;
            if (i % 3 == 0) {
                Due.spring(x, 0, springs[i / 2]);
            } else if (i % 3 == 1) {
                Due.laws(x, laws[i % 5]);
            }
            x.cold(i % 3 == 2 ? cold : 10);
            SpoutSpring y = Springs.with(springs[(i - i % 3) / 2], i == 0 ? "" : laws[(i % 3 == 0 ? i - 2 : i - i % 3 + 1) % 5],
                i % 3 == 2 ? cold : 10);
            for (int n = 0; n <= 6; n += 3) {
                for (int what = 0; what < 5; what++) {
                    Due.same("round " + i + ": book " + n + " " + what, x.book(0, n, what), y.book(0, n, what));
                }
                for (int room = 0; room < 3; room++) {
                    Due.same("round " + i + ": room " + n + " " + room, x.room(0, n, room, 1), y.room(0, n, room, 1));
                }
            }
            Due.same("round " + i + ": plays", x.plays(0, 12), y.plays(0, 12));
            Due.same("round " + i + ": none thrown in 0", x.book(0, 0, 4), 0);
        }
    }

    // ---- (a)

    /** "each ROOM gets cold grains of water, no more than it holds, of COLD each". */
    private static void coldWater() {
        SpoutSpring x = with(Springs.line("room a", "air", 0, 5, 0, 0, 2), "", 10);
        state("behind second 0", x, 0, 0, 0);
        state("two", x, 1, 2, 20);
        state("four", x, 2, 4, 40);
        state("one more fits", x, 3, 5, 50);
        state("full", x, 4, 5, 50);
        Due.same("came in", x.book(0, 1000, 0), 5);
        Due.spring(x, 0, Springs.line("room a", "air", 0, 5, 0, 0, 5));
        state("just full", x, 1, 5, 50);
        Due.spring(x, 0, Springs.line("room a", "air", 0, 5, 0, 0, 30));
        state("more than it holds", x, 1, 5, 50);
        Due.spring(x, 0, Springs.line("room a", "air", 0, 5, 0, 0, 0));
        state("no cold", x, 1000, 0, 0);
    }

    /** "then hot WARMTH if it has any water". */
    private static void hotIfAnyWater() {
        SpoutSpring x = with(Springs.line("room a", "air", 0, 9, 0, 50, 0), "", 10);
        state("no water", x, 9, 0, 0);
        Due.spring(x, 0, Springs.line("room a", "air", 0, 1, 0, 50, 1));
        state("one grain", x, 1, 1, 60);
        Due.spring(x, 0, Springs.line("room a", "air", 0, 1, 0, 0, 1));
        state("hot 0", x, 9, 1, 10);
        // b gets its first water by a join in (b): hot comes a second later.
        Due.spring(x, 0, Springs.line("room a", "air", 0, 9, 0, 0, 4) + Springs.line("room b", "air", 0, 9, 0, 5, 0)
            + "join a b wide 1;");
        state("not yet", x, 1, 3, 30, 1, 10);
        state("then hot", x, 2, 6, 60, 2, 25);
    }

    /** "COLD: true; false, doing nothing, if it can't be."; "(0 .. 99; 10 at first)". */
    private static void coldCalls() {
        SpoutSpring x = new SpoutSpring();
        Due.spring(x, 0, Springs.POND);
        state("10 at first", x, 1, 3, 30);
        int[] bad = {-1, 100, MIN, MAX};
        for (int warmth : bad) {
            Due.no("cold " + warmth, x.cold(warmth));
            state("10 stays", x, 1, 3, 30);
        }
        for (int warmth = 0; warmth <= 99; warmth++) {
            Due.yes("cold " + warmth, x.cold(warmth));
            Due.same("of " + warmth + " each", x.room(0, 1, 0, 1), 3 * warmth);
        }
        for (int warmth : bad) {
            Due.no("cold " + warmth, x.cold(warmth));
            state("99 stays", x, 1, 3, 297);
        }
        Due.spring(x, 3, Springs.POND);
        Due.same("for all shelves", x.room(3, 1, 0, 1), 297);
    }

    /** "HIGH: likewise."; "(1 .. 99; 5 at first)". */
    private static void highCalls() {
        SpoutSpring x = with(Springs.JET.replace("wide 10", "wide 5"), "", 0);
        Due.same("5 at first", x.plays(0, 5), 1);
        int[] bad = {0, -1, 100, MIN, MAX};
        for (int grains : bad) {
            Due.no("high " + grains, x.high(grains));
            Due.same("5 stays", x.plays(0, 5), 1);
        }
        Due.spring(x, 0, Springs.JET.replace("wide 10", "wide 4"));
        Due.same("4 is not high at first", x.plays(0, 5), 0);
        for (int grains : bad) {
            Due.no("high " + grains, x.high(grains));
            Due.same("5 stays yet", x.plays(0, 5), 0);
        }
        for (int grains = 1; grains <= 99; grains++) {
            Due.yes("high " + grains, x.high(grains));
            Due.same("4 thrown, high " + grains, x.plays(0, 5), grains <= 4 ? 1 : 0);
        }
    }

    /** "SECONDS in a row in each of which THROWN is HIGH or more": all of 99 grains by four rooms at once. */
    private static void highIsEnough() {
        StringBuilder text = new StringBuilder(Springs.line("neck t", "air", 0, 99, 30, 0, 30));
        for (char name = 'a'; name <= 'd'; name++) {
            text.append(Springs.line("room " + name, "t", 9, 1, 0, 100, 1));
        }
        SpoutSpring x = with(text.toString(), Springs.CLOCK_LAWS, 0);
        Due.same("thrown", x.book(0, 4, 4), 99);
        Due.yes("high 99", x.high(99));
        Due.same("a play of 99", x.plays(0, 4), 1);
        Due.same("its greatest", x.play(0, 4, 0, 2), 99);
        Due.spring(x, 0, text.toString().replace("holds 99", "holds 98"));
        Due.same("98 thrown", x.book(0, 4, 4), 98);
        Due.same("no play of 99", x.plays(0, 4), 0);
        Due.yes("high 98", x.high(98));
        Due.same("a play of 98", x.plays(0, 4), 1);
        Due.yes("high 1", x.high(1));
        Due.spring(x, 0, text.toString().replace("wide 30", "wide 0"));
        Due.same("none thrown is not 1", x.plays(0, 1000), 0);
    }

    // ---- (b)

    private static String joined(int one, int other, int wide) {
        return Springs.line("room a", "air", 0, 30, 0, 0, one) + Springs.line("room b", "air", 0, 30, 0, 0, other)
            + "join a b wide " + wide + ";";
    }

    /** "half the difference (cut), no more than wide". */
    private static void joinsHalf() {
        int[][] due = {{5, 5, 30, 5, 5}, {6, 5, 30, 6, 5}, {7, 5, 30, 6, 6}, {8, 5, 30, 7, 6}, {5, 8, 30, 6, 7},
            {5, 6, 30, 5, 6}, {30, 0, 30, 15, 15}, {30, 0, 15, 15, 15}, {30, 0, 14, 16, 14}, {30, 0, 1, 29, 1},
            {30, 0, 0, 30, 0}, {0, 30, 14, 14, 16}, {0, 30, 0, 0, 30}, {0, 0, 30, 0, 0}, {1, 0, 30, 1, 0}};
        for (int[] d : due) {
            SpoutSpring x = with(joined(d[0], d[1], d[2]), "", 10);
            state("join " + d[0] + " " + d[1] + " wide " + d[2], x, 1, d[3], 10 * d[3], d[4], 10 * d[4]);
        }
        // "with its share of WARMTH (WARMTH * grains / water, cut)": 35 of 3 grains, one goes with 11.
        SpoutSpring x = with(joined(3, 1, 30).replaceFirst("hot 0", "hot 5"), "", 10);
        state("share", x, 1, 2, 24, 2, 21);
    }

    /** "nothing beyond what the other one holds". */
    private static void joinsHold() {
        for (int holds = 1; holds <= 14; holds++) {
            String text = Springs.line("room a", "air", 0, 30, 0, 0, 23) + Springs.line("room b", "air", 0, holds, 0, 0, 1)
                + "join b a wide 30;";
            SpoutSpring x = with(text, "", 10);
            int moved = Math.min(11, holds - 1);
            state("b holds " + holds, x, 1, 23 - moved, 230 - 10 * moved, 1 + moved, 10 + 10 * moved);
            if (holds <= 12) {
                state("b is full", x, 2, 30, 300, holds, 10 * holds);
            }
        }
    }

    /** "JOINS, one by one". */
    private static void joinsOneByOne() {
        String three = Springs.line("room a", "air", 0, 30, 0, 0, 16) + Springs.line("room b", "air", 0, 30, 0, 0, 0)
            + Springs.line("room c", "air", 0, 30, 0, 0, 0);
        state("a b, b c", with(three + "join a b wide 30;join b c wide 30;", "", 10), 1, 8, 80, 4, 40, 4, 40);
        state("b c, a b", with(three + "join b c wide 30;join a b wide 30;", "", 10), 1, 8, 80, 8, 80, 0, 0);
        state("a b twice", with(three + "join a b wide 3;join b a wide 3;", "", 10), 1, 10, 100, 6, 60, 0, 0);
        state("four", with(three + "join a b wide 3;join b c wide 3;join a c wide 3;join c b wide 3;", "", 10), 1,
            10, 100, 3, 30, 3, 30);
    }

    // ---- (c)

    /** "if WARMTH is not above BOIL * water; else (WARMTH - BOIL * water) / 50 (cut)". */
    private static void steamJustAbove() {
        int[][] due = {{499, 0}, {500, 0}, {501, 0}, {549, 0}, {550, 1}, {599, 1}, {600, 2}, {649, 2}, {650, 3},
            {699, 3}, {700, 4}, {749, 4}, {750, 5}, {799, 5}, {800, 5}, {999, 5}};
        for (int[] d : due) {
            SpoutSpring x = with(Springs.line("room a", "air", 0, 5, 0, d[0], 5), "", 0);
            Due.same("steam of warmth " + d[0], x.book(0, 1, 2), d[1]);
            state("behind steam of warmth " + d[0], x, 1, 5 - d[1], d[0] - 150 * d[1]);
        }
    }

    /** "0 without water"; "no more than its water". */
    private static void steamNoMoreThanWater() {
        // Behind second 1 b has no water and 849 of WARMTH; a throws none, b stays so for ever.
        SpoutSpring x = with(Springs.line("room a", "air", 0, 1, 0, 999, 1), "boil 100;", 0);
        state("all of it", x, 1, 0, 849);
        Due.same("one", x.book(0, 1, 2), 1);
        Due.same("each second no more than one", x.book(0, 50, 2), 50);
        Due.laws(x, "boil 999;");
        state("just not", x, 1, 1, 999);
        state("two seconds' warmth", x, 2, 0, 949);
        // A room that never has water has no STEAM, whatever its WARMTH.
        x = with(Springs.line("room a", "air", 0, 1, 0, 999, 0), "boil 1;", 99);
        Due.same("no water", x.book(0, 1000, 2), 0);
        Due.same("more warmth does nothing", x.parts(0, 0, 999, 1000), -1);
    }

    /** "it loses its STEAM as grains (no more than it has by then), and (BOIL + 50) WARMTH for each (0 at least)". */
    private static void steamByThen() {
        // STEAM of t: (990 + 260 - 1000) / 50 = 5; of b: (495 + 205 - 5 * 110) / 50 = 3, which throws 6 of t's 10 with 750.
        String text = Springs.line("neck t", "air", 0, 10, 6, 260, 10) + Springs.line("room b", "t", 9, 5, 0, 205, 5);
        SpoutSpring x = with(text, "", 99);
        state("t has but 4 by then", x, 1, 0, 0, 2, 220);
        Due.same("thrown", x.book(0, 1, 4), 6);
        Due.same("steam", x.book(0, 1, 2), 7);
        Due.same("there", x.book(0, 1, 3), 2);
        // Its WARMTH did not go below 0: in second 2 it is 990 + 260 again ahead of (c).
        // b has 5 of 220 + 297 + 205 = 722: (722 - 550) / 50 = 3 again.
        state("as from nothing", x, 2, 0, 0, 2, 242);
        // With a wide of 10 nothing is left for t's own STEAM.
        Due.spring(x, 0, text.replace("wide 6", "wide 10").replace("hot 205", "hot 305"));
        Due.same("five by two: all ten", x.book(0, 1, 4), 10);
        Due.same("five of b alone", x.book(0, 1, 2), 5);
        // From the last one to the first: c throws b's water to t ahead of b's own turn.
        String chain = Springs.line("neck t", "air", 0, 9, 9, 0, 2) + Springs.line("room b", "t", 5, 4, 9, 999, 4)
            + Springs.line("room c", "b", 9, 2, 0, 999, 2);
        x = with(chain, "lift 3; boil 100;", 0);
        // c: 2 of STEAM, 6 are to be thrown: b gives its 4 to t (6 there, full is 9); t gives 6 to the air; b has none by then.
        Due.same("thrown", x.book(0, 1, 4), 6);
        Due.same("steam of c alone", x.book(0, 1, 2), 2);
        Due.same("nothing is there", x.book(0, 1, 3), 0);
    }

    /** "each gives .. so many .., no more than its own wide, nor than it has". */
    private static void throwsWide() {
        for (int wide = 0; wide <= 30; wide++) {
            String text = Springs.JET.replace("wide 10", "wide " + wide);
            SpoutSpring x = with(text, "", 0);
            Due.same("five by two of ten, wide " + wide, x.book(0, 1, 4), Math.min(wide, 10));
            x = with(text.replace("holds 10", "holds 7"), "", 0);
            Due.same("of seven, wide " + wide, x.book(0, 1, 4), Math.min(wide, 7));
            x = with(text, "lift 1;", 0);
            Due.same("five by one, wide " + wide, x.book(0, 1, 4), Math.min(wide, 5));
            x = with(text.replace("cold 10", "cold 0"), "", 0);
            Due.same("of none, wide " + wide, x.book(0, 1, 4), 0);
        }
        // The wide of the one that throws is nothing to it.
        SpoutSpring x = with(Springs.JET.replace("holds 5 wide 0", "holds 5 wide 30"), "", 0);
        Due.same("b's own wide", x.book(0, 1, 4), 10);
    }

    /** "of these the one above takes what it can still hold ..; the rest goes to the air". */
    private static void throwsToTheOneAbove() {
        // b throws 10: m gives its 10 to t, which has 4; then t gives 0 (wide 0).
        for (int holds = 4; holds <= 16; holds++) {
            String text = Springs.line("room t", "air", 0, holds, 0, 0, 4) + Springs.line("room m", "t", 5, 10, 30, 0, 10)
                + Springs.line("room b", "m", 9, 5, 0, 999, 5);
            SpoutSpring x = with(text, "boil 100;", 0);
            int taken = Math.min(10, holds - 4);
            Due.same("t holds " + holds + ": it has", x.room(0, 1, 0, 0), 4 + taken);
            Due.same("t holds " + holds + ": thrown", x.book(0, 1, 4), 10 - taken);
            Due.same("t holds " + holds + ": to the air", x.book(0, 1, 1), 10 - taken);
            Due.same("m has", x.room(0, 1, 1, 0), 0);
        }
        // The same number at each: 4 from m, though t has taken them, 4 from t.
        String text = Springs.line("room t", "air", 0, 20, 30, 0, 9) + Springs.line("room m", "t", 5, 10, 4, 0, 9)
            + Springs.line("room b", "m", 9, 3, 0, 999, 3);
        SpoutSpring x = with(text, "boil 100; lift 2;", 0);
        state("six of t, four of m", x, 1, 7, 0, 5, 0, 0, 549);
        Due.same("six to the air", x.book(0, 1, 4), 6);
        // m is empty: t gives all the same.
        Due.spring(x, 0, text.replace("wide 4 hot 0 cold 9", "wide 4 hot 0 cold 0"));
        Due.same("from t", x.book(0, 1, 4), 6);
        // m's wide is 0: so t gives all the same.
        Due.spring(x, 0, text.replace("wide 4", "wide 0"));
        Due.same("from t again", x.book(0, 1, 4), 6);
        Due.same("m keeps its own", x.room(0, 1, 1, 0), 9);
    }

    /** "with their share of WARMTH; .. with its share of theirs (that * grains taken / grains given, cut)". */
    private static void throwsSharesCut() {
        // m: 7 grains, 7 * 10 + 3 = 73; it gives 5 with 73 * 5 / 7 = 52; t takes 2 of 5 with 52 * 2 / 5 = 20.
        String text = Springs.line("room t", "air", 0, 4, 0, 0, 2) + Springs.line("room m", "t", 5, 7, 5, 3, 7)
            + Springs.line("room b", "m", 9, 3, 0, 999, 3);
        SpoutSpring x = with(text, "boil 100;", 10);
        state("shares", x, 1, 4, 40, 2, 21, 0, 579);
        Due.same("three thrown", x.book(0, 1, 4), 3);
    }

    // ---- (d)

    /** "A pool that is full gives all but half of what it holds (cut) to the air, with their share of WARMTH." */
    private static void poolsFull() {
        for (int holds = 1; holds <= 30; holds++) {
            int share = (10 * holds + 7) * (holds - holds / 2) / holds;
            SpoutSpring x = with(Springs.line("pool p", "air", 0, holds, 0, 7, holds), "", 10);
            state("full pool of " + holds, x, 1, holds / 2, 10 * holds + 7 - share);
            Due.same("to the air", x.book(0, 1, 1), holds - holds / 2);
            Due.same("not thrown", x.book(0, 1, 4), 0);
            if (holds > 1) {
                x = with(Springs.line("pool p", "air", 0, holds, 0, 7, holds - 1), "", 10);
                state("one less than full", x, 1, holds - 1, 10 * (holds - 1) + 7);
            }
            x = with(Springs.line("neck p", "air", 0, holds, 0, 7, holds), "", 10);
            state("a neck stays full", x, 1, holds, 10 * holds + 7);
            x = with(Springs.line("room p", "air", 0, holds, 0, 7, holds), "", 10);
            state("a room stays full", x, 1, holds, 10 * holds + 7);
        }
        SpoutSpring x = with(Springs.line("pool p", "air", 0, 99, 0, 0, 30), "", 10);
        state("99 in second 4", x, 4, 49, 490);
        // Full by a join, and by what is thrown.
        x = with(Springs.line("room a", "air", 0, 30, 0, 0, 9) + Springs.line("pool p", "air", 0, 4, 0, 0, 1)
            + "join a p wide 30;", "", 10);
        state("full by a join", x, 1, 6, 60, 2, 20);
        x = with(Springs.line("pool t", "air", 0, 8, 0, 0, 0) + Springs.line("room m", "t", 5, 10, 30, 0, 8)
            + Springs.line("room b", "m", 9, 4, 0, 999, 4), "boil 100;", 0);
        Due.same("full by what was thrown", x.room(0, 1, 0, 0), 4);
        Due.same("its half to the air", x.book(0, 1, 1), 4);
        Due.same("none thrown", x.book(0, 1, 4), 0);
    }

    // ---- 9 to 12

    /** "Behind SECONDS 1 .. n (0 .. 1,000) of a SHELF, of a ROOM what 0 .. 3 ..; NONE if one can't be." */
    private static void roomArguments() {
        int[] outside = {-1, 4, MIN, MAX};
        for (int shelf = 0; shelf < 4; shelf++) {
            SpoutSpring x = new SpoutSpring();
            Due.same("no room yet", x.room(shelf, 1, 0, 0), -1);
            Due.spring(x, shelf, Springs.GEYSER);
            int[] due = {10, 600, 60, 105};
            for (int what = 0; what < 4; what++) {
                Due.same("what " + what, x.room(shelf, 1, 1, what), due[what]);
                Due.same("second 0, what " + what, x.room(shelf, 0, 1, what), what == 3 ? 100 : 0);
                Due.same("no room 2", x.room(shelf, 1, 2, what), -1);
                Due.same("no room -1", x.room(shelf, 1, -1, what), -1);
                Due.same("no room 8", x.room(shelf, 1, 8, what), -1);
                Due.same("no room of another shelf", x.room(3 - shelf, 1, 0, what), -1);
                Due.same("second 1001", x.room(shelf, 1001, 1, what), -1);
                Due.same("second -1", x.room(shelf, -1, 1, what), -1);
                Due.same("second MAX", x.room(shelf, MAX, 1, what), -1);
                Due.same("second MIN", x.room(shelf, MIN, 1, what), -1);
            }
            Due.same("room MAX", x.room(shelf, 1, MAX, 0), -1);
            Due.same("room MIN", x.room(shelf, 1, MIN, 0), -1);
            // 1000 is 1 beyond a ring of 3.
            Due.same("second 1000", x.room(shelf, 1000, 1, 1), 600);
            for (int bad : outside) {
                Due.same("what " + bad, x.room(shelf, 1, 1, bad), -1);
                Due.same("shelf " + bad, x.room(bad, 1, 0, 0), -1);
            }
        }
    }

    /** "BOOKS of these SECONDS what 0 .. 4 (0 for n 0). NONE likewise." */
    private static void bookArguments() {
        int[] outside = {-1, 5, MIN, MAX};
        int[] badShelves = {-1, 4, MIN, MAX};
        int[] due = {15 + 5 + 0, 9, 10, 1, 9};
        for (int shelf = 0; shelf < 4; shelf++) {
            SpoutSpring x = new SpoutSpring();
            for (int what = 0; what < 5; what++) {
                Due.same("an empty shelf " + what, x.book(shelf, 1000, what), 0);
            }
            Due.spring(x, shelf, Springs.GEYSER);
            for (int what = 0; what < 5; what++) {
                Due.same("book " + what, x.book(shelf, 3, what), due[what]);
                Due.same("of no seconds " + what, x.book(shelf, 0, what), 0);
                Due.same("second -1", x.book(shelf, -1, what), -1);
                Due.same("second 1001", x.book(shelf, 1001, what), -1);
                Due.same("second MAX", x.book(shelf, MAX, what), -1);
                Due.same("second MIN", x.book(shelf, MIN, what), -1);
            }
            Due.same("second 1000", x.book(shelf, 1000, 1), 333 * 9);
            Due.same("second 999", x.book(shelf, 999, 4), 9);
            Due.same("thrown in second 1000 alone", x.book(shelf, 1000, 4), 0);
            for (int bad : outside) {
                Due.same("what " + bad, x.book(shelf, 3, bad), -1);
            }
            for (int bad : badShelves) {
                Due.same("shelf " + bad, x.book(bad, 3, 0), -1);
            }
        }
    }

    /** "the first is the sum of the others". */
    private static void booksBalance() {
        String all = Springs.line("pool t", "air", 0, 30, 5, 40, 7) + Springs.line("neck m", "t", 5, 20, 9, 80, 3)
            + Springs.line("room b", "m", 9, 12, 3, 700, 5) + Springs.line("pool p", "t", 9, 12, 3, 300, 5)
            + "join t b wide 3;join b p wide 9;";
        SpoutSpring x = with(all, "lift 1 + water / 4; cool warm / 9;", 20);
        for (int n = 0; n <= 100; n++) {
            int sum = x.book(0, n, 1) + x.book(0, n, 2) + x.book(0, n, 3);
            Due.same("books of " + n, x.book(0, n, 0), sum);
        }
        Due.yes("it throws, steams and empties pools", x.book(0, 100, 1) > 100 && x.book(0, 100, 2) > 100);
    }

    /** "How many PLAYS a COURSE of n has; NONE if one can't be."; "(n 1 .. 1,000)"; "or if there is none such". */
    private static void playsArguments() {
        int[] badShelves = {-1, 4, MIN, MAX};
        int[] badSeconds = {0, -1, 1001, MIN, MAX};
        for (int shelf = 0; shelf < 4; shelf++) {
            SpoutSpring x = new SpoutSpring();
            x.cold(0);
            Due.same("an empty shelf has none", x.plays(shelf, 1), 0);
            Due.same("nor a first one", x.play(shelf, 1000, 0, 0), -1);
            Due.spring(x, shelf, Springs.JET);
            Due.same("one second", x.plays(shelf, 1), 1);
            Due.same("1000 seconds", x.plays(shelf, 1000), 1);
            Due.same("length 1", x.play(shelf, 1, 0, 1), 1);
            Due.same("length 1000", x.play(shelf, 1000, 0, 1), 1000);
            for (int n : badSeconds) {
                Due.same("plays of " + n, x.plays(shelf, n), -1);
                Due.same("play of " + n, x.play(shelf, n, 0, 0), -1);
            }
            for (int bad : badShelves) {
                Due.same("plays of shelf " + bad, x.plays(bad, 9), -1);
                Due.same("play of shelf " + bad, x.play(bad, 9, 0, 0), -1);
                Due.same("what " + bad, x.play(shelf, 9, 0, bad), -1);
            }
            int[] badPlays = {-1, 1, 199, 200, MIN, MAX};
            for (int i : badPlays) {
                for (int what = 0; what < 4; what++) {
                    Due.same("play " + i, x.play(shelf, 9, i, what), -1);
                }
            }
        }
    }

    /** "PLAYS by their first SECOND, length, greatest THROWN"; WAIT; "A PLAY that goes on at the end counts with what it has". */
    private static void playsAtTheEdges() {
        SpoutSpring x = with(Springs.GEYSER, "", 10);
        for (int n = 1; n <= 60; n++) {
            Due.same("plays of " + n, x.plays(0, n), n / 3);
        }
        Due.same("the last of them", x.play(0, 60, 19, 0), 60);
        Due.same("one second as it begins", x.play(0, 60, 19, 1), 1);
        Due.same("no next one", x.play(0, 60, 20, 0), -1);
        Due.same("not begun yet", x.play(0, 59, 19, 0), -1);
        Due.same("NONE for i 0", x.play(0, 60, 0, 3), -1);
        for (int i = 1; i < 20; i++) {
            Due.same("wait " + i, x.play(0, 60, i, 3), 2);
        }
        // It throws 6, 10, 10, 6, 10, 10, 6, 10, 10, 8.
        x = with(Springs.JET.replace("hot 999", "hot 700"), "", 0);
        int[] thrown = {6, 10, 10, 6, 10, 10, 6, 10, 10, 8};
        for (int n = 1; n <= 10; n++) {
            Due.same("thrown in " + n, x.book(0, n, 4), thrown[n - 1]);
        }
        x.high(7);
        int[] lengths = {0, 1, 2, 2, 2, 2, 2, 2, 2, 3};
        int[] counts = {0, 1, 1, 1, 2, 2, 2, 3, 3, 3};
        for (int n = 1; n <= 10; n++) {
            Due.same("plays of " + n, x.plays(0, n), counts[n - 1]);
            if (counts[n - 1] > 0) {
                int last = counts[n - 1] - 1;
                int due = n == 5 || n == 8 ? 1 : lengths[n - 1];
                Due.same("length of the last in " + n, x.play(0, n, last, 1), due);
            }
        }
        Due.same("the third goes on", x.play(0, 10, 2, 1), 3);
        Due.same("its wait is behind the second's length", x.play(0, 10, 2, 3), 1);
        Due.same("wait of one second", x.play(0, 10, 1, 3), 1);
        Due.same("greatest", x.play(0, 10, 2, 2), 10);
        x.high(6);
        Due.same("one play of all", x.play(0, 10, 0, 1), 10);
        Due.same("its greatest is not its first", x.play(0, 10, 0, 2), 10);
        Due.same("as it began", x.play(0, 1, 0, 2), 6);
    }

    /** "200 at most, the first ones". */
    private static void playsOf200() {
        // It plays in the seconds 2, 4, 6 ..
        String text = Springs.CLOCK.replace("hot 100", "hot 200").replace("cold 2", "cold 5");
        SpoutSpring x = with(text, Springs.CLOCK_LAWS, 0);
        Due.same("199 of 399", x.plays(0, 399), 199);
        Due.same("200 of 400", x.plays(0, 400), 200);
        Due.same("200 of 401", x.plays(0, 401), 200);
        Due.same("200 of 402", x.plays(0, 402), 200);
        Due.same("200 of 1000", x.plays(0, 1000), 200);
        Due.same("the 200th", x.play(0, 1000, 199, 0), 400);
        Due.same("its wait", x.play(0, 1000, 199, 3), 1);
        Due.same("no 201st", x.play(0, 1000, 200, 0), -1);
        Due.same("no 200th of 399", x.play(0, 399, 199, 0), -1);
    }
}
