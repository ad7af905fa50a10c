/** Each promise by itself, with answers worked out by hand from the document. */
public final class PromiseTest {
    private PromiseTest() {
    }

    public static void main(String[] args) {
        newObject();
        tape();
        springs();
        springFaults();
        numbersOfSpring();
        lawTexts();
        lawNests();
        lawWorth();
        coldAndHigh();
        fillAndCool();
        joins();
        throwing();
        pools();
        books();
        plays();
        sights();
        boards();
        logs();
        threads();
        shooks();
        stolen();
        years();
        led();
        rings();
        parts();
        gaps();
        abouts();
        Due.finish("PromiseTest");
    }

    private static void newObject() {
        SpoutSpring x = new SpoutSpring();
        Due.same("NONE", SpoutSpring.NONE, -1);
        for (int what = 0; what <= 12; what++) {
            Due.same("new about " + what, x.about(what), 0);
        }
        Due.same("new fault 0", x.fault(0), 0);
        Due.same("new fault 1", x.fault(1), -1);
        Due.same("new plays", x.plays(3, 1000), 0);
    }

    private static void tape() {
        SpoutSpring x = new SpoutSpring();
        Due.same("end of nothing", x.end(0), 0);
        Due.same("end beyond", x.end(1), -1);
        Due.same("end below", x.end(-1), -1);
        for (int i = 1; i <= 45; i++) {
            Due.same("feed " + i, x.feed(-1, 0, Integer.MIN_VALUE, Integer.MAX_VALUE, 1), 20 * i);
        }
        Due.same("feed beyond 900", x.feed(0, 0, 0, 0, 0), -1);
        Due.same("nothing came", x.about(12), 900);
        Due.same("end 881", x.end(881), 881);
        Due.same("feed beyond 900 by one", x.feed(0, 0, 0, 0, 0), -1);
        Due.same("end 880", x.end(880), 880);
        Due.same("feed to 900", x.feed(0, 0, 0, 0, 0), 900);
        Due.same("end 901", x.end(901), -1);
        Due.same("still 900", x.about(12), 900);
        // The highest byte first: "laws" as one number is l, a, w, s.
        x.end(0);
        x.feed(0x636f6f6c, 0x20313b20, 0x20202020, 0x20202020, 0x20202020);
        Due.same("bytes in order", x.laws(), 1);
    }

    private static void springs() {
        SpoutSpring x = new SpoutSpring();
        Due.same("empty text", x.spring(2), 0);
        Due.write(x, Springs.GEYSER);
        Due.same("no shelf -1", x.spring(-1), -2);
        Due.same("no shelf 4", x.spring(4), -2);
        Due.same("the tape stays", x.about(12), Springs.GEYSER.length());
        Due.same("spring", x.spring(3), 2);
        Due.same("the tape is empty", x.about(12), 0);
        Due.same("a fault", Due.spring(x, 3, "room"), -1);
        Due.same("the tape is empty at a fault", x.about(12), 0);
        Due.same("the spring stays", x.about(3), 2);
        Due.same("its seconds stay", x.plays(3, 9), 3);
        Due.write(x, Springs.POND);
        Due.same("refused", x.spring(9), -2);
        Due.same("the fault of the latest that was not -2", x.fault(0), 2);
        Due.same("its place", x.fault(1), 4);
        Due.same("another what", x.fault(2), -1);
        Due.same("another what", x.fault(-1), -1);
        Due.same("in place of the old one", x.spring(3), 1);
        Due.same("without fault", x.fault(0), 0);
        Due.same("without place", x.fault(1), -1);
        Due.same("new seconds", x.plays(3, 9), 0);
        Due.same("blanks part or not", Due.spring(x, 0,
            "\n room\na depth0 holds1 \n wide0 hot0 cold0 up air;pool b depth3 holds2 wide1 hot0 cold0 up a ; "), 2);
        Due.same("eight letters", Due.spring(x, 0, Springs.POND.replace(" a ", " abcdefgh ")), 1);
        Due.same("empty again", Due.spring(x, 0, "  \n"), 0);
    }

    private static void fault(String text, int what, int place) {
        SpoutSpring x = new SpoutSpring();
        Due.same("spring of " + text, Due.spring(x, 0, text), -1);
        Due.same("fault of " + text, x.fault(0), what);
        Due.same("place in " + text, x.fault(1), place);
    }

    /** The fault of Springs.POND with a part of it changed; it stands where the mark ^ stands in the new part. */
    private static void pondFault(String part, String by, int what) {
        String text = Springs.POND.replace(part, by);
        Due.yes(part + " is in the pond", Springs.POND.contains(part));
        fault(text.replace("^", ""), what, text.indexOf('^'));
    }

    private static void springFaults() {
        pondFault("room a", "^rooms a", 2);
        pondFault("room a", "^7 a", 2);
        pondFault("room a", "^boil a", 2);
        pondFault(" a ", " ^abcdefghi ", 1);
        pondFault(" a ", " ^A ", 1);
        pondFault(" a ", " ^\t a", 1);
        pondFault(" a ", " ^" + (char) 233 + " ", 1);
        pondFault(" a ", " ^" + (char) 0 + " ", 1);
        pondFault(" a ", " ^warm ", 2);
        pondFault(" a ", " ^air ", 2);
        pondFault(" a ", " ^12 ", 2);
        pondFault(" a ", " a^1 ", 2);
        pondFault(" a ", " ^", 2);
        pondFault("depth 0", "^dept 0", 2);
        pondFault("depth 0", "^; 0", 2);
        pondFault("depth 0", "depth ^61", 4);
        pondFault("depth 0", "depth ^00000", 1);
        pondFault("depth 0", "depth ^0a", 1);
        pondFault("depth 0", "depth 0^A", 1);
        pondFault("depth 0", "depth ^a", 2);
        pondFault("depth 0", "depth ^-1", 2);
        pondFault("holds 20", "holds ^0", 4);
        pondFault("holds 20", "holds ^100", 4);
        pondFault("wide 0", "wide ^31", 4);
        pondFault("hot 0", "hot ^1000", 4);
        pondFault("cold 3", "cold ^31", 4);
        pondFault("cold 3", "^hot 3", 2);
        pondFault("up air", "^air", 2);
        pondFault("up air", "up ^water", 2);
        pondFault("up air", "up ^5", 2);
        pondFault("up air", "up ^b", 5);
        pondFault("up air", "up ^a", 5);
        pondFault("air;", "air^", 2);
        pondFault("air;", "air  ^", 2);
        pondFault("air;", "air ^)", 2);
        pondFault("air;", "air ^'", 1);
        pondFault("air;", "air; ^;", 2);
        pondFault("air;", "air; room ^a", 3);
        pondFault("air;", "air; join a ^b", 5);
        pondFault("air;", "air; join ^b a", 5);
        pondFault("air;", "air; join a ^a wide 3;", 6);
        pondFault("air;", "air; join a ^up", 2);
        pondFault("air;", "air; join ^3", 2);
        String two = Springs.POND + "room b depth 1 holds 1 wide 0 hot 0 cold 0 up a;";
        fault(two + "join a b wide 31;", 4, two.length() + 14);
        fault(two + "join a b ;", 2, two.length() + 9);
        fault(two + "join a b wide 30", 2, two.length() + 16);
        fault(two.replace("depth 1", "depth 0"), 6, two.length() - 2);
        Due.same("a depth that is just not less", Due.spring(new SpoutSpring(), 0, two), 2);
        String later = "room b depth 1 holds 1 wide 0 hot 0 cold 0 up a;" + Springs.POND;
        fault(later, 5, later.indexOf("a;"));
    }

    private static void numbersOfSpring() {
        String[] kinds = {"room", "neck", "pool"};
        StringBuilder text = new StringBuilder();
        for (int r = 0; r < 8; r++) {
            text.append(kinds[r % 3]).append(" x").append((char) ('a' + r));
            text.append(" depth 60 holds 99 wide 30 hot 999 cold 30 up air;");
        }
        String eight = text.toString();
        fault(eight + " room y", 2, eight.length() + 1);
        fault(eight + "pool xa", 2, eight.length());
        for (int j = 0; j < 4; j++) {
            text.append("join xa xb wide 30;");
        }
        SpoutSpring x = new SpoutSpring();
        Due.same("eight rooms, four joins", Due.spring(x, 1, text.toString()), 8);
        Due.same("its rooms", x.about(1), 8);
        Due.same("its joins", x.about(5), 4);
        fault(text + "join xa xb wide 30;", 2, text.length());
        fault(text + "room", 2, text.length());
        Due.same("the least numbers", Due.spring(x, 1, "room a depth 0000 holds 01 wide 0 hot 0 cold 0 up air;"), 1);
    }

    private static void lawFault(String marked, int what) {
        SpoutSpring x = new SpoutSpring();
        String text = marked.replace("^", "");
        Due.same("first laws", Due.laws(x, "boil 7;"), 1);
        Due.same("laws of " + text, Due.laws(x, text), -1);
        Due.same("fault of " + text, x.fault(0), what);
        Due.same("place in " + text, x.fault(1), marked.indexOf('^'));
        Due.same("those there are stay", x.about(8), 1);
        Due.same("the tape is empty", x.about(12), 0);
    }

    private static void lawTexts() {
        SpoutSpring x = new SpoutSpring();
        Due.same("three lines", Due.laws(x, "cool 1;boil 2 ;lift 3;"), 3);
        Due.same("lines", x.about(8), 3);
        Due.same("no lines", x.laws(), 0);
        Due.same("no lines", x.about(8), 0);
        String blanks = " ".repeat(294) + "boil 7";
        Due.write(x, blanks + ";");
        Due.same("301 bytes", x.laws(), -2);
        Due.same("the tape stays", x.about(12), 301);
        Due.same("cut", x.end(300), 300);
        Due.same("300 bytes", x.laws(), -1);
        Due.same("its place", x.fault(1), 300);
        Due.same("300 bytes", Due.laws(x, " ".repeat(293) + "boil 7;"), 1);
        lawFault("^7", 2);
        lawFault("^room 7;", 2);
        lawFault("^heat 7;", 2);
        lawFault("boil ^;", 2);
        lawFault("boil 7^", 2);
        lawFault("boil 7 ^8;", 2);
        lawFault("boil 7; ^boil 8;", 2);
        lawFault("boil 7; lift 1; cool 1; ^lift", 2);
        lawFault("boil ^holds;", 2);
        lawFault("boil ^a;", 2);
        lawFault("boil 1 < 2 ^< 3;", 2);
        lawFault("boil 1 = ^not 3;", 2);
        lawFault("boil 1 + ^not 3;", 2);
        lawFault("boil ^- 3;", 2);
        lawFault("boil 1 and ^or 3;", 2);
        lawFault("boil (1^;", 2);
        lawFault("boil 1^);", 2);
        lawFault("boil (^);", 2);
        lawFault("boil 1 ^% 2;", 1);
        lawFault("boil ^12345;", 1);
        lawFault("boil ^1or 2;", 1);
        lawFault("boil ^abovewarm;", 1);
        lawFault("^Boil 1;", 1);
    }

    private static void lawNests() {
        SpoutSpring x = new SpoutSpring();
        Due.same("a unit within six", Due.laws(x, "boil " + "(".repeat(7) + "1" + ")".repeat(7) + ";"), 1);
        lawFault("boil " + "(".repeat(7) + "^(1" + ")".repeat(8) + ";", 2);
        Due.same("a one within six", Due.laws(x, "boil " + "not ".repeat(7) + "1;"), 1);
        lawFault("boil " + "not ".repeat(7) + "^not 1;", 2);
        Due.same("both kinds", Due.laws(x, "boil (not (not (not (1)))) + (2);"), 1);
        lawFault("boil (not (not (not (^(1)))));", 2);
        lawFault("boil (not (not (not (^not 1))));", 2);
        Due.same("behind one another", Due.laws(x, "boil not 1 and not 1 and not 1 and not 1 and not 1 and not 1 and "
            + "not 1 and not 1 or not 1 or (1) + (2) + (3) + (4) + (5) + (6) + (7) + (8);"), 1);
        Due.same("forty units", Due.laws(x, "boil " + "1+".repeat(19) + "1; lift " + "1*".repeat(19) + "1;"), 2);
        lawFault("boil " + "1+".repeat(19) + "1; lift " + "1*".repeat(19) + "1*^1;", 2);
        lawFault("boil " + "1+".repeat(39) + "1; lift ^depth;", 2);
        // ( e ) is a unit as well.
        Due.same("forty with one around", Due.laws(x, "boil (" + "1+".repeat(38) + "1);"), 1);
        lawFault("boil (" + "1+".repeat(38) + "1+^1);", 2);
        lawFault("boil " + "1+".repeat(39) + "1+^(1);", 2);
    }

    private static void worth(String e, int boil) {
        SpoutSpring x = Springs.with(Springs.POND, "boil " + e + ";", 10);
        Due.same("boil " + e, x.room(0, 0, 0, 3), boil);
    }

    private static void lawWorth() {
        worth("2+3*4", 14);
        worth("(2+3)*4", 20);
        worth("20-5-3", 12);
        worth("100/7/2", 7);
        worth("100/7*7", 98);
        worth("10+(0-7)/2", 7);
        worth("10+7/(0-2)", 7);
        worth("5+7/0", 5);
        worth("5+7/water", 5);
        worth("1<2", 1);
        worth("5+(2<1)", 5);
        worth("5+(2>1)", 6);
        worth("5+(2=2)", 6);
        worth("5+(1+1=2*1)", 6);
        worth("5+(2=3)", 5);
        worth("5+(2<2)", 5);
        worth("5+(2>2)", 5);
        worth("5+(7 and 9)", 6);
        worth("5+(1 and 1)", 6);
        worth("5+(0 and 1)", 5);
        worth("5+(7 and 0)", 5);
        worth("5+(0 or 9)", 6);
        worth("5+(0 or 0)", 5);
        worth("5+(1 or 0 and 0)", 6);
        worth("5+(not 7)", 5);
        worth("5+(not 0)", 6);
        worth("5+(not 1<0)", 6);
        worth("5+(not 0 and 0)", 5);
        worth("5+(not not 7)", 6);
        worth("999", 999);
        worth("1000", 999);
        worth("0", 1);
        worth("0-5", 1);
        worth("9999*9999*99/9999/9999", Math.max(1, 9999 * 9999 * 99 / 9999 / 9999));
        worth("9999*9999*50/9999/999", Math.max(1, 9999 * 9999 * 50 / 9999 / 999));
        // What there is, behind second 2 of the geyser: n has 10 of 100, c 10 of 1100.
        SpoutSpring x = Springs.with(Springs.GEYSER, "boil depth*100+above;", 10);
        Due.same("depth and above", x.room(0, 2, 1, 3), 999);
        Due.laws(x, "boil above + 300;");
        Due.same("above", x.room(0, 2, 1, 3), 310);
        Due.same("nothing above", x.room(0, 2, 0, 3), 300);
        Due.laws(x, "boil 500 + water;");
        Due.same("water", x.room(0, 2, 1, 3), 510);
        Due.laws(x, "boil 200 + warm;");
        Due.same("warm", x.room(0, 2, 1, 3), 310);
        Due.laws(x, "");
        Due.same("boil not told", x.room(0, 2, 1, 3), 110);
    }

    private static void coldAndHigh() {
        SpoutSpring x = Springs.with(Springs.POND, "", 10);
        Due.no("cold -1", x.cold(-1));
        Due.no("cold 100", x.cold(100));
        Due.same("cold 10 stays", x.room(0, 1, 0, 1), 30);
        Due.yes("cold 0", x.cold(0));
        Due.same("cold 0", x.room(0, 1, 0, 1), 0);
        Due.yes("cold 99", x.cold(99));
        Due.same("cold 99", x.room(0, 1, 0, 1), 297);
        Due.spring(x, 0, Springs.GEYSER);
        x.cold(10);
        Due.no("high 0", x.high(0));
        Due.no("high 100", x.high(100));
        Due.same("high 5 stays", x.plays(0, 3), 1);
        Due.yes("high 9", x.high(9));
        Due.same("just high", x.plays(0, 3), 1);
        Due.yes("high 10", x.high(10));
        Due.same("just not", x.plays(0, 3), 0);
        Due.yes("high 99", x.high(99));
        Due.yes("high 1", x.high(1));
    }

    private static void fillAndCool() {
        SpoutSpring x = Springs.with(Springs.POND, "cool water;", 10);
        Due.same("nothing ahead", x.room(0, 1, 0, 1), 30);
        Due.same("cool by what the step ahead left", x.room(0, 2, 0, 1), 57);
        Due.same("cool again", x.room(0, 3, 0, 1), 81);
        Due.same("warm is cut", x.room(0, 2, 0, 2), 9);
        Due.same("no more than it holds", x.room(0, 7, 0, 0), 20);
        Due.same("came in", x.book(0, 9, 0), 20);
        Due.laws(x, "cool 2000;");
        Due.same("0 at least", x.room(0, 3, 0, 1), 0);
        Due.laws(x, "cool 0 - 5;");
        Due.same("not below 0", x.room(0, 3, 0, 1), 90);
        Due.same("hot needs water", Due.spring(x, 0, Springs.POND.replace("hot 0 cold 3", "hot 50 cold 0")), 1);
        Due.same("no water, no hot", x.room(0, 5, 0, 1), 0);
        Due.same("no water, no warm", x.room(0, 5, 0, 2), 0);
        x = Springs.with(Springs.POND.replace("hot 0", "hot 999"), "cool 1500; boil 999;", 0);
        Due.same("999 at most", x.room(0, 2, 0, 1), 0);
        x = Springs.with(Springs.POND.replace("hot 0", "hot 999").replace("cold 3", "cold 30"), "cool 1500; boil 999;", 10);
        Due.same("999 at most, seen", x.room(0, 1, 0, 1), 200);
        Due.same("room of a shelf that is none", x.room(4, 1, 0, 0), -1);
        Due.same("room -1", x.room(0, 1, -1, 0), -1);
        Due.same("room beyond", x.room(0, 1, 1, 0), -1);
        Due.same("room of an empty shelf", x.room(1, 1, 0, 0), -1);
        Due.same("second -1", x.room(0, -1, 0, 0), -1);
        Due.same("second 1001", x.room(0, 1001, 0, 0), -1);
        Due.same("second 1000", x.room(0, 1000, 0, 0), 20);
        Due.same("what 4", x.room(0, 1, 0, 4), -1);
        Due.same("what -1", x.room(0, 1, 0, -1), -1);
    }

    private static void joins() {
        String ponds = "room a depth 0 holds 20 wide 0 hot 5 cold 9 up air; room b depth 0 holds 5 wide 0 hot 0 cold 1 up air;";
        SpoutSpring x = Springs.with(ponds + "join b a wide 30;", "", 10);
        Due.same("from a", x.room(0, 1, 0, 0), 5);
        Due.same("its share is cut", x.room(0, 1, 0, 1), 53);
        Due.same("to b", x.room(0, 1, 1, 0), 5);
        Due.same("with its share", x.room(0, 1, 1, 1), 52);
        Due.same("nothing beyond what b holds", x.room(0, 2, 0, 0), 14);
        Due.spring(x, 0, ponds + "join a b wide 3;");
        Due.same("no more than wide", x.room(0, 1, 1, 0), 4);
        Due.spring(x, 0, ponds + "join a b wide 2; join a b wide 2;");
        Due.same("one by one", x.room(0, 1, 1, 0), 5);
        Due.same("half of what is left", x.room(0, 1, 0, 0), 5);
        Due.spring(x, 0, ponds + "join a b wide 0;");
        Due.same("as if there were none", x.room(0, 1, 1, 0), 1);
        Due.spring(x, 0, ponds.replace("cold 9", "cold 4") + "join a b wide 9;");
        Due.same("half is cut", x.room(0, 1, 0, 0), 3);
    }

    private static void throwing() {
        String text = "room t depth 0 holds 10 wide 3 hot 0 cold 4 up air; room m depth 5 holds 6 wide 30 hot 0 cold 6 up t; "
            + "room b depth 9 holds 5 wide 0 hot 999 cold 5 up m;";
        SpoutSpring x = Springs.with(text, "", 20);
        int[][] due = {{7, 140, 0, 0, 0, 299, 3, 3, 5}, {7, 140, 0, 0, 0, 568, 9, 12, 10}};
        for (int n = 1; n <= 2; n++) {
            for (int i = 0; i < 6; i++) {
                Due.same("thrown through a room, second " + n + " " + i, x.room(0, n, i / 2, i % 2), due[n - 1][i]);
            }
            Due.same("thrown", x.book(0, n, 4), due[n - 1][6]);
            Due.same("to the air", x.book(0, n, 1), due[n - 1][7]);
            Due.same("steam", x.book(0, n, 2), due[n - 1][8]);
        }
        Due.same("warmth without water is not warm", x.room(0, 1, 2, 2), 0);
        x = Springs.with("room t depth 0 holds 10 wide 10 hot 999 cold 5 up air;"
            + "room b depth 9 holds 5 wide 0 hot 999 cold 5 up t;", "", 0);
        Due.same("b's warmth", x.room(0, 1, 1, 1), 224);
        Due.same("steam of what was thrown away is none", x.book(0, 1, 2), 5);
        Due.same("all of t was thrown", x.book(0, 1, 4), 5);
        Due.same("t has nothing", x.room(0, 1, 0, 1), 0);
        x = Springs.with(Springs.GEYSER, "lift water - 8;", 10);
        Due.same("lift by what there was", x.book(0, 3, 4), 9);
        Due.laws(x, "lift 0;");
        Due.same("nothing is thrown", x.book(0, 3, 4), 0);
        Due.same("steam goes all the same", x.book(0, 3, 2), 10);
        x = Springs.with(Springs.JET, "lift 100; boil 1;", 0);
        Due.same("lift is 30 at most", x.book(0, 1, 4), 10);
        x = Springs.with("room b depth 9 holds 5 wide 9 hot 600 cold 5 up air;", "", 0);
        Due.same("nobody above: nothing is thrown", x.book(0, 1, 4), 0);
        // WARMTH 600, BOIL 100: (600 - 500) / 50 = 2 grains, 150 of WARMTH each.
        Due.same("two grains of steam", x.room(0, 1, 0, 0), 3);
        Due.same("their warmth", x.room(0, 1, 0, 1), 300);
        x = Springs.with("room b depth 9 holds 5 wide 9 hot 549 cold 5 up air;", "", 0);
        Due.same("less than 50 beyond", x.book(0, 1, 2), 0);
        x = Springs.with("room b depth 9 holds 5 wide 9 hot 550 cold 5 up air;", "", 0);
        Due.same("just 50 beyond", x.book(0, 1, 2), 1);
    }

    private static void pools() {
        SpoutSpring x = Springs.with("pool p depth 0 holds 9 wide 0 hot 1 cold 3 up air;", "", 10);
        Due.same("not full", x.room(0, 2, 0, 0), 6);
        Due.same("all but half", x.room(0, 3, 0, 0), 4);
        Due.same("93 less 93 * 5 / 9", x.room(0, 3, 0, 1), 42);
        Due.same("to the air", x.book(0, 3, 1), 5);
        Due.same("but not thrown", x.book(0, 3, 4), 0);
        Due.spring(x, 0, "pool p depth 0 holds 1 wide 0 hot 1 cold 3 up air;");
        Due.same("half of one is none", x.room(0, 1, 0, 0), 0);
        Due.same("nor any warmth", x.room(0, 1, 0, 1), 0);
        Due.spring(x, 0, "room p depth 0 holds 9 wide 0 hot 1 cold 3 up air;");
        Due.same("no pool", x.room(0, 3, 0, 0), 9);
    }

    private static void books() {
        SpoutSpring x = Springs.with(Springs.GEYSER, "", 10);
        for (int n = 0; n <= 30; n++) {
            int sum = x.book(0, n, 1) + x.book(0, n, 2) + x.book(0, n, 3);
            Due.same("sum of second " + n, x.book(0, n, 0), sum);
        }
        Due.same("second 0", x.book(0, 0, 4), 0);
        Due.same("of the second alone", x.book(0, 6, 4), 9);
        Due.same("of all", x.book(0, 6, 1), 18);
        Due.same("back again", x.book(0, 3, 1), 9);
        Due.same("second 1000", x.book(0, 1000, 1), 333 * 9);
        Due.same("what 5", x.book(0, 1, 5), -1);
        Due.same("what -1", x.book(0, 1, -1), -1);
        Due.same("second 1001", x.book(0, 1001, 0), -1);
        Due.same("second -1", x.book(0, -1, 0), -1);
        Due.same("shelf 4", x.book(4, 1, 0), -1);
        Due.same("shelf -1", x.book(-1, 1, 0), -1);
        Due.same("empty shelf", x.book(1, 1000, 0), 0);
    }

    private static void plays() {
        SpoutSpring x = Springs.with(Springs.JET, "", 0);
        Due.same("one long play", x.plays(0, 1000), 1);
        Due.same("its first second", x.play(0, 7, 0, 0), 1);
        Due.same("with what it has", x.play(0, 7, 0, 1), 7);
        Due.same("its greatest", x.play(0, 7, 0, 2), 10);
        Due.same("no wait", x.play(0, 7, 0, 3), -1);
        Due.same("no second one", x.play(0, 7, 1, 0), -1);
        Due.same("what 4", x.play(0, 7, 0, 4), -1);
        Due.same("play -1", x.play(0, 7, -1, 0), -1);
        Due.same("no seconds", x.plays(0, 0), -1);
        Due.same("1001 seconds", x.plays(0, 1001), -1);
        Due.same("shelf 4", x.plays(4, 5), -1);
        Due.same("no seconds", x.play(0, 0, 0, 0), -1);
        Due.same("1001 seconds", x.play(0, 1001, 0, 0), -1);
        Due.same("shelf -1", x.play(-1, 5, 0, 0), -1);
        x = Springs.with(Springs.GEYSER, "", 10);
        Due.same("the third", x.play(0, 9, 2, 0), 9);
        Due.same("its wait", x.play(0, 9, 2, 3), 2);
        Due.same("the second one's wait", x.play(0, 9, 1, 3), 2);
        // It throws 6, 10, 10, 6, 10, 10, 6, 10, 10, 8.
        x = Springs.with(Springs.JET.replace("hot 999", "hot 700"), "", 0);
        Due.same("all high", x.play(0, 10, 0, 1), 10);
        Due.same("greatest", x.play(0, 10, 0, 2), 10);
        x.high(10);
        Due.same("three of two seconds", x.plays(0, 10), 3);
        Due.same("first second", x.play(0, 10, 1, 0), 5);
        Due.same("length", x.play(0, 10, 1, 1), 2);
        Due.same("behind the last second of the one ahead", x.play(0, 10, 1, 3), 1);
        Due.same("just begun", x.play(0, 5, 1, 1), 1);
        // Every second second: b's one grain boils away at each other one.
        x = Springs.with(Springs.CLOCK.replace("hot 100", "hot 200").replace("cold 2", "cold 5"), Springs.CLOCK_LAWS, 0);
        Due.same("each other second", x.play(0, 1000, 199, 0), 400);
        Due.same("200 at most", x.plays(0, 1000), 200);
        Due.same("a 201st", x.play(0, 1000, 200, 0), -1);
        Due.same("up to the 200th", x.plays(0, 399), 199);
        Due.same("one second each", x.play(0, 1000, 199, 1), 1);
        // A course has its first 200: none is in the seconds behind the 400th.
        x.log(401, 500, true);
        Due.same("the 201st is in no course", x.fits() & 1, 0);
    }

    private static void sights() {
        SpoutSpring x = new SpoutSpring();
        Due.same("length 0", x.sight(0, 5), -1);
        Due.same("length 100", x.sight(100, 5), -1);
        Due.same("wait -1", x.sight(5, -1), -1);
        Due.same("wait 1000", x.sight(5, 1000), -1);
        Due.same("none came", x.about(9), 0);
        Due.same("least", x.sight(1, 0), 0);
        Due.same("most", x.sight(99, 999), 1);
        Due.no("none such", x.untell(2));
        Due.no("none such", x.untell(-1));
        Due.same("later 0", x.later(0), 0);
        Due.same("later -1", x.later(-1), -1);
        Due.same("later 1001", x.later(1001), -1);
        Due.same("later 1000", x.later(1000), 1000);
        Due.yes("untell", x.untell(0));
        Due.no("untell again", x.untell(0));
        Due.same("both at 999", x.span(1, 100, 999), 500);
        Due.same("one at 1000", x.span(1, 100, 1000), 0);
        Due.same("none ahead of 0", x.board(1, 100, 1, -1), -1);
        Due.same("told at 0", x.board(1, 100, 1, 0), 499);
        Due.same("one at 1000: its time", x.board(1, 100, 1, 1000), 999);
        Due.same("told at 1000", x.sight(5, 10), 2);
        Due.yes("untold at once", x.untell(2));
        Due.same("never counts", x.board(1, 100, 5, 1000), 999);
        for (int i = 3; i < 60; i++) {
            Due.same("sight " + i, x.sight(i, i), i);
        }
        Due.same("a 61st", x.sight(1, 1), -1);
        Due.same("sixty", x.about(9), 60);
        Due.no("no 61st to untell", x.untell(60));
        for (int i = 0; i < 99; i++) {
            x.later(1000);
        }
        Due.same("the latest", x.about(11), 100000);
        Due.same("beyond", x.later(1), -1);
        Due.same("the same time", x.later(0), 100000);
    }

    private static void boards() {
        SpoutSpring x = new SpoutSpring();
        int[] waits = {10, 12, 30, 34, 70, 80};
        for (int i = 0; i < waits.length; i++) {
            x.sight(10 * (i + 1), waits[i]);
        }
        Due.same("one row", x.span(1, 100, 0), 35);
        Due.same("two rows: 10 .. 34 and 70, 80", x.span(2, 100, 0), 12);
        Due.same("three rows", x.span(3, 100, 0), 5);
        Due.same("four rows: one pair each", x.span(4, 100, 0), 2);
        Due.same("share 0", x.span(1, 0, 0), 0);
        Due.same("a sixth by 16", x.span(1, 16, 0), 0);
        Due.same("two sixths by 17", x.span(1, 17, 0), 1);
        Due.same("share -1", x.span(1, -1, 0), -1);
        Due.same("share 101", x.span(1, 101, 0), -1);
        Due.same("no rows", x.span(0, 100, 0), -1);
        Due.same("five rows", x.span(5, 100, 0), -1);
        // 10, 12, 30 by 10 and 70, 80 by 5; 34 is missed.
        Due.same("five of six", x.span(2, 83, 0), 10);
        Due.same("row one", x.board(2, 100, 40, 0), 22);
        // The second row begins as low as can be: at 41, and its time is the least that hits both.
        Due.same("row two begins", x.board(2, 100, 41, 0), 68);
        Due.same("row two", x.board(2, 100, 99, 0), 68);
        Due.same("length 0", x.board(2, 100, 0, 0), -1);
        Due.same("length 100", x.board(2, 100, 100, 0), -1);
        Due.same("no rows", x.board(0, 100, 5, 0), -1);
        Due.same("share 101", x.board(2, 101, 5, 0), -1);
        // All share 0 by span 0: one hit of the six is the most, the least wait is it.
        Due.same("one row, share 0", x.board(1, 0, 5, 0), 10);
        SpoutSpring y = new SpoutSpring();
        y.sight(50, 500);
        Due.same("rows begin as low as can be: one", y.board(4, 100, 1, 0), 0);
        Due.same("two", y.board(4, 100, 2, 0), 0);
        Due.same("three", y.board(4, 100, 3, 0), 0);
        Due.same("four", y.board(4, 100, 4, 0), 500);
        SpoutSpring w = new SpoutSpring();
        for (int i = 1; i <= 4; i++) {
            w.sight(95 + i, 100 * i);
        }
        Due.same("the last four lengths", w.span(4, 100, 0), 0);
        for (int i = 1; i <= 4; i++) {
            Due.same("length " + (95 + i), w.board(4, 100, 95 + i, 0), 100 * i);
        }
        Due.same("three rows for four", w.span(3, 100, 0), 50);
        Due.same("rows begin at 2 and 98", w.board(3, 100, 97, 0), 150);
        Due.same("the first row hits none", w.board(3, 100, 1, 0), 0);
        SpoutSpring z = new SpoutSpring();
        Due.same("nothing yet", z.span(1, 100, 0), 0);
        Due.same("nothing yet", z.board(1, 100, 9, 0), -1);
        z.sight(99, 3);
        Due.same("one there", z.board(1, 100, 9, 0), 3);
        z.sight(1, 7);
        Due.same("no time below 0", z.board(1, 100, 9, 0), 5);
        Due.same("its span", z.span(1, 100, 0), 2);
        z.untell(0);
        Due.same("one untold", z.span(1, 100, 0), 0);
        z.sight(1, 0);
        z.sight(1, 1);
        z.sight(2, 9);
        Due.same("0, 1, 7, 9", z.span(1, 100, 0), 5);
        Due.same("0 at least", z.board(1, 75, 1, 0), 3);
    }

    private static void logs() {
        SpoutSpring x = Springs.with(Springs.GEYSER, "", 10);
        Due.same("all fit without logs", x.fits(), 15);
        Due.same("from 0", x.log(0, 5, true), -1);
        Due.same("to 501", x.log(5, 501, true), -1);
        Due.same("to below from", x.log(5, 4, true), -1);
        Due.same("first log", x.log(3, 3, true), 0);
        Due.same("one shelf", x.fits(), 1);
        Due.same("second log", x.log(4, 5, false), 1);
        Due.same("one shelf still", x.fits(), 1);
        Due.same("third log", x.log(1, 500, true), 2);
        Due.same("fourth log", x.log(498, 498, true), 3);
        Due.same("one shelf still", x.fits(), 1);
        Due.same("fifth log", x.log(499, 500, true), 4);
        Due.same("none", x.fits(), 0);
        Due.same("five", x.about(10), 5);
        Due.same("clear", x.clear(), 5);
        Due.same("none there", x.about(10), 0);
        Due.same("not played", x.log(1, 500, false), 0);
        Due.same("the empty ones", x.fits(), 14);
        for (int i = 1; i < 40; i++) {
            Due.same("log " + i, x.log(i, i, false), i);
        }
        Due.same("a 41st", x.log(1, 1, false), -1);
        Due.same("clear", x.clear(), 40);
        // A play that goes on in the log's seconds began ahead of them.
        x = Springs.with(Springs.JET, "", 0);
        x.log(2, 500, true);
        Due.same("it began ahead", x.fits(), 0);
    }

    private static void threads() {
        SpoutSpring x = Springs.with("room a depth 0 holds 10 wide 0 hot 0 cold 1 up air;", "", 10);
        Due.spring(x, 1, "room a depth 0 holds 10 wide 0 hot 5 cold 1 up air;");
        Due.spring(x, 2, "room a depth 0 holds 1 wide 0 hot 5 cold 1 up air;");
        Due.same("the room", x.thread(7, 0), 0);
        Due.same("three values in second 2", x.thread(7, 1), 2);
        Due.same("three values", x.thread(7, 2), 3);
        Due.same("four values with none such", x.thread(15, 2), 4);
        Due.same("the least second", x.thread(3, 1), 1);
        Due.same("two of them", x.thread(3, 2), 2);
        Due.same("1 and 2 in second 1 alike", x.thread(6, 1), 2);
        Due.same("a room that is none such", x.thread(9, 0), 0);
        Due.same("a shelf alone", x.thread(4, 0), -1);
        Due.same("no shelf", x.thread(0, 2), -1);
        Due.same("what 3", x.thread(3, 3), -1);
        Due.same("what -1", x.thread(3, -1), -1);
        Due.same("shelves -1", x.thread(-1, 0), -1);
        Due.same("shelves 16", x.thread(16, 0), -1);
        Due.spring(x, 3, "room a depth 0 holds 10 wide 0 hot 0 cold 1 up air;");
        Due.same("alike", x.thread(9, 0), -1);
        String more = "room b depth 1 holds 9 wide 0 hot 3 cold 1 up a; room c depth 1 holds 9 wide 0 hot 3 cold 1 up a;";
        Due.spring(x, 3, "room a depth 0 holds 10 wide 0 hot 0 cold 1 up air;" + more);
        Due.same("of like ones the first room", x.thread(9, 0), 1);
        // Behind second s it is warm 10 + s; cool is asked by second s - 1, so these part in second 200, and in 201.
        String hearth = "room a depth 0 holds 1 wide 0 hot 1 cold 1 up air;";
        x = Springs.with(hearth, "boil 999; cool (warm > 208) * depth;", 10);
        Due.spring(x, 1, hearth.replace("depth 0", "depth 1"));
        Due.same("the last second", x.thread(3, 1), 200);
        Due.laws(x, "boil 999; cool (warm > 209) * depth;");
        Due.same("too late", x.thread(3, 1), -1);
    }

    private static void shooks() {
        SpoutSpring x = Springs.with(Springs.CLOCK.replace("wide 10", "wide 3"), Springs.CLOCK_LAWS, 0);
        Due.same("no logs", x.shook(0, 0), -1);
        x.log(4, 4, true);
        Due.same("the room", x.shook(0, 0), 0);
        Due.same("the nearest wide", x.shook(0, 1), 5);
        Due.same("one log", x.shook(0, 2), 1);
        x.log(4, 4, false);
        Due.same("one as well as the other", x.shook(0, 0), -1);
        x.clear();
        x.log(1, 3, false);
        Due.same("no more than without", x.shook(0, 0), -1);
        x.clear();
        x.log(1, 3, false);
        x.log(8, 8, true);
        x.log(9, 11, true);
        Due.same("two of three", x.shook(0, 2), 2);
        x.high(6);
        Due.same("another high", x.shook(0, 1), 6);
        x.high(9);
        Due.same("too high", x.shook(0, 1), -1);
        x.high(5);
        Due.same("what 3", x.shook(0, 3), -1);
        Due.same("what -1", x.shook(0, -1), -1);
        Due.same("shelf 4", x.shook(4, 0), -1);
        Due.same("empty shelf", x.shook(1, 0), -1);
        Due.spring(x, 0, Springs.CLOCK);
        x.clear();
        x.log(4, 4, false);
        Due.same("less wide", x.shook(0, 1), 4);
        Due.laws(x, "boil 350; lift 4;");
        Due.same("other laws: it does not play anyway", x.shook(0, 1), -1);
        Due.laws(x, "boil 340; lift 30;");
        Due.same("it plays in second 4 again", x.shook(0, 1), 4);
        x.cold(99);
        Due.same("it plays in second 3", x.shook(0, 1), -1);
        x.cold(0);
        Due.same("cold again", x.shook(0, 1), 4);
        Due.spring(x, 0, Springs.CLOCK.replace("wide 10", "wide 9"));
        Due.same("another spring", x.shook(0, 2), 1);
        Due.spring(x, 0, Springs.POND);
        Due.same("a spring without rooms above", x.shook(0, 2), -1);
        // Thrown 1 a second by wide 1: high 1 is out of reach by wide 0 alone.
        x = Springs.with(Springs.CLOCK, Springs.CLOCK_LAWS, 0);
        x.high(1);
        x.log(4, 4, false);
        Due.same("wide 0", x.shook(0, 1), 0);
        x = Springs.with("neck t depth 0 holds 99 wide 3 hot 0 cold 30 up air; room b depth 9 holds 1 wide 0 hot 100 cold 1 up t;",
            Springs.CLOCK_LAWS, 0);
        x.high(30);
        x.log(4, 4, true);
        Due.same("wide 30", x.shook(0, 1), 30);
        // By wide 4 it never throws 5; by 8 it plays in other seconds; by 5 and 7 as by its own.
        String tie = "room t depth 0 holds 12 wide 6 hot 0 cold 2 up air; room b depth 9 holds 8 wide 0 hot 200 cold 2 up t;";
        for (int wide = 4; wide <= 8; wide++) {
            x = Springs.with(tie.replace("wide 6", "wide " + wide), "", 10);
            x.log(11, 11, false);
            Due.same("wide " + wide + " fits", x.fits() & 1, wide == 4 || wide == 8 ? 1 : 0);
        }
        x = Springs.with(tie, "", 10);
        x.log(11, 11, false);
        Due.same("of two as near the lesser", x.shook(0, 1), 4);
        x.clear();
        Due.same("no logs any more", x.shook(0, 1), -1);
        x = Springs.with(Springs.CLOCK.replace("wide 10", "wide 5"), Springs.CLOCK_LAWS, 0);
        x.log(4, 4, false);
        Due.same("just less wide", x.shook(0, 1), 4);
        x.high(6);
        x.clear();
        x.log(4, 4, true);
        Due.same("just wider", x.shook(0, 1), 6);
        x = Springs.with("neck t depth 0 holds 99 wide 0 hot 0 cold 30 up air; room b depth 9 holds 1 wide 0 hot 100 cold 1 up t;",
            Springs.CLOCK_LAWS, 0);
        x.high(30);
        x.log(4, 4, true);
        Due.same("from 0 to 30", x.shook(0, 1), 30);
        Due.spring(x, 0, "neck t depth 0 holds 99 wide 30 hot 0 cold 30 up air;"
            + "room b depth 9 holds 1 wide 0 hot 100 cold 1 up t;");
        x.high(1);
        x.clear();
        x.log(4, 4, false);
        Due.same("from 30 to 0", x.shook(0, 1), 0);
        // Both rooms above hold back; of like ones the first.
        x = Springs.with("room t depth 0 holds 10 wide 10 hot 0 cold 0 up air; room m depth 1 holds 10 wide 10 hot 0 cold 2 up t;"
            + "room b depth 9 holds 1 wide 0 hot 100 cold 1 up m;", Springs.CLOCK_LAWS, 0);
        Due.same("through both", x.play(0, 4, 0, 2), 8);
        x.log(4, 4, false);
        Due.same("the first room", x.shook(0, 0), 0);
        Due.same("wide 4", x.shook(0, 1), 4);
    }

    private static void stolen() {
        SpoutSpring x = Springs.with(Springs.CLOCK + "room c depth 0 holds 99 wide 0 hot 0 cold 0 up air; join t c wide 30;",
            Springs.CLOCK_LAWS, 0);
        Due.same("stolen", x.stolen(0, 4), 1);
        Due.same("not yet", x.stolen(0, 3), 0);
        Due.same("none with it", x.plays(0, 4), 0);
        Due.same("empty", x.stolen(3, 1000), 0);
        Due.same("no seconds", x.stolen(0, 0), -1000);
        Due.same("1001 seconds", x.stolen(0, 1001), -1000);
        Due.same("shelf 4", x.stolen(4, 5), -1000);
        Due.same("shelf -1", x.stolen(-1, 5), -1000);
        // The other way round: c gives to t.
        x = Springs.with(Springs.CLOCK.replace("cold 2", "cold 0")
            + "room c depth 0 holds 99 wide 0 hot 0 cold 9 up air; join t c wide 30;", Springs.CLOCK_LAWS, 0);
        Due.same("given", x.stolen(0, 4), -1);
    }

    private static void years() {
        SpoutSpring x = Springs.with(Springs.GEYSER, "", 10);
        Due.same("nine less one a year", x.years(0, 9), 6);
        Due.same("no seconds", x.years(0, 0), -1);
        Due.same("101 seconds", x.years(0, 101), -1);
        Due.same("shelf 4", x.years(4, 5), -1);
        Due.same("empty", x.years(1, 100), 1);
        x.high(1);
        Due.spring(x, 0, Springs.GEYSER.replace("wide 9", "wide 19"));
        Due.same("the twentieth", x.years(0, 9), 20);
        Due.spring(x, 0, Springs.GEYSER.replace("wide 9", "wide 20"));
        Due.same("not in twenty", x.years(0, 9), -1);
        Due.spring(x, 0, Springs.GEYSER.replace("neck", "room"));
        Due.same("no neck", x.years(0, 9), -1);
        x = Springs.with(Springs.JET, "", 0);
        Due.same("a play that goes on does not begin", x.years(0, 5), 2);
        x = Springs.with(Springs.GEYSER, "", 10);
        Due.same("no play in the first two seconds", x.years(0, 2), 1);
        Due.same("one second", x.years(0, 1), 1);
        Due.same("three seconds: one play a year", x.years(0, 3), 6);
        Due.same("a hundred", x.years(0, 100), 6);
        Due.same("the course goes on", x.years(0, 4), 6);
    }

    private static void led() {
        SpoutSpring x = Springs.with(Springs.CLOCK, Springs.CLOCK_LAWS, 0);
        Due.same("one a second", x.led(0, 0, 1, 4), 1);
        Due.same("for two plays", x.led(0, 0, 2, 8), 1);
        Due.same("not even without", x.led(0, 0, 2, 7), -1);
        Due.same("the only grain", x.led(0, 1, 1, 4), 0);
        x.high(8);
        Due.same("none at all", x.led(0, 0, 1, 4), 0);
        x.high(9);
        Due.same("too high", x.led(0, 0, 1, 4), -1);
        x.high(5);
        Due.same("99 plays", x.led(0, 0, 99, 396), 1);
        Due.same("a second less", x.led(0, 0, 99, 395), -1);
        Due.same("nothing is led away for others", x.stolen(0, 8) + x.parts(0, 1, 99, 8), -1);
        Due.same("no plays", x.led(0, 0, 0, 4), -1);
        Due.same("100 plays", x.led(0, 0, 100, 1000), -1);
        Due.same("room 2", x.led(0, 2, 1, 4), -1);
        Due.same("room -1", x.led(0, -1, 1, 4), -1);
        Due.same("shelf 4", x.led(4, 0, 1, 4), -1);
        Due.same("no seconds", x.led(0, 0, 1, 0), -1);
        Due.same("1001 seconds", x.led(0, 0, 1, 1001), -1);
        x = Springs.with(Springs.JET, "", 0);
        Due.same("all of it", x.led(0, 0, 1, 5), 30);
        Due.same("what it has at a second's end", x.led(0, 1, 1, 5), 30);
        // Half of b's water takes half of its warmth, which never comes to 2 * 95 + 50 then.
        x = Springs.with(Springs.CLOCK.replace("holds 1 ", "holds 2 ").replace("cold 1 ", "cold 2 "), "boil 95; lift 30;", 0);
        Due.same("it plays without", x.play(0, 10, 0, 0), 3);
        Due.same("with their share", x.led(0, 1, 1, 10), 0);
    }

    private static void rings() {
        SpoutSpring x = Springs.with(Springs.CLOCK, Springs.CLOCK_LAWS, 0);
        Due.same("from all empty", x.ring(0, 4, 0), 0);
        Due.same("each four seconds", x.ring(0, 4, 1), 4);
        Due.same("the same later", x.ring(0, 1000, 1), 4);
        Due.same("not yet", x.ring(0, 3, 0), -1);
        Due.same("what 2", x.ring(0, 9, 2), -1);
        Due.same("what -1", x.ring(0, 9, -1), -1);
        Due.same("1001 seconds", x.ring(0, 1001, 0), -1);
        Due.same("shelf 4", x.ring(4, 9, 0), -1);
        x = Springs.with(Springs.POND, "", 10);
        Due.same("full from second 7 on", x.ring(0, 8, 0), 7);
        Due.same("and stays so", x.ring(0, 8, 1), 1);
        Due.same("second 8 is needed", x.ring(0, 7, 1), -1);
        Due.spring(x, 0, Springs.POND.replace("hot 0", "hot 1"));
        Due.same("ever warmer", x.ring(0, 500, 1), -1);
    }

    private static void parts() {
        SpoutSpring x = Springs.with(Springs.CLOCK, Springs.CLOCK_LAWS, 0);
        Due.same("one second sooner", x.parts(0, 1, 100, 8), 1);
        Due.same("not enough", x.parts(0, 1, 99, 8), -1);
        Due.same("a play more", x.parts(0, 1, 100, 3), 1);
        Due.same("the most warmth", x.parts(0, 1, 999, 8), 1);
        Due.same("the least warmth", x.parts(0, 1, 1, 8), -1);
        Due.laws(x, "boil 351; lift 30;");
        Due.same("the least warmth is enough", x.parts(0, 1, 1, 8), 1);
        Due.laws(x, Springs.CLOCK_LAWS);
        Due.same("one second", x.parts(0, 1, 999, 1), -1);
        Due.spring(x, 1, Springs.CLOCK.replace("hot 100", "hot 135"));
        Due.same("a shelf that plays in second 3", x.play(1, 3, 0, 0), 3);
        Due.same("alike but in number", x.parts(0, 1, 100, 3), 1);
        Due.same("neither plays yet", x.parts(0, 1, 100, 2), -1);
        Due.same("no warmth", x.parts(0, 1, 0, 8), -1);
        Due.same("1000 of warmth", x.parts(0, 1, 1000, 8), -1);
        Due.same("room 2", x.parts(0, 2, 5, 8), -1);
        Due.same("no seconds", x.parts(0, 1, 5, 0), -1);
        Due.same("1001 seconds", x.parts(0, 1, 5, 1001), -1);
        Due.same("shelf 4", x.parts(4, 1, 5, 8), -1);
        x = Springs.with(Springs.GEYSER, "", 10);
        Due.same("the second play parts", x.parts(0, 1, 60, 10), 2);
        Due.same("not in five seconds", x.parts(0, 1, 60, 4), -1);
        x = Springs.with(Springs.JET, "", 0);
        Due.same("alike as they began", x.parts(0, 1, 999, 50), -1);
    }

    private static void gaps() {
        SpoutSpring x = new SpoutSpring();
        Due.same("one wait", x.gap(5, 3, 9, 1, 2, 0), 0);
        Due.same("one wait at most", x.gap(5, 3, 9, 1, 2, 1), 0);
        Due.same("just two waits and a length", x.gap(7, 3, 9, 1, 2, 1), 1);
        Due.same("the most of one wait", x.gap(9, 3, 9, 1, 2, 0), 0);
        Due.same("beyond it", x.gap(10, 3, 9, 1, 2, 0), 1);
        Due.same("nothing just fills it", x.gap(5, 3, 4, 1, 2, 1), -1);
        Due.same("no seconds", x.gap(0, 1, 1, 1, 1, 0), -1);
        Due.same("seconds -1", x.gap(-1, 1, 1, 1, 1, 0), -1);
        Due.same("seconds 2001", x.gap(2001, 1, 999, 1, 999, 0), -1);
        Due.same("seconds 2000", x.gap(2000, 1, 999, 1, 999, 0), 1);
        Due.same("the most of 1999", x.gap(1999, 1, 1, 1, 1, 1), 999);
        Due.same("2000 is even", x.gap(2000, 1, 1, 1, 1, 1), -1);
        Due.same("a 0", x.gap(5, 0, 9, 1, 2, 0), -1);
        Due.same("b 1000", x.gap(5, 1, 1000, 1, 2, 0), -1);
        Due.same("c 0", x.gap(5, 1, 9, 0, 2, 0), -1);
        Due.same("d 1000", x.gap(5, 1, 9, 1, 1000, 0), -1);
        Due.same("b below a", x.gap(5, 9, 8, 1, 2, 0), -1);
        Due.same("d below c", x.gap(5, 5, 5, 2, 1, 0), -1);
        Due.same("what 2", x.gap(5, 1, 9, 1, 2, 2), -1);
        Due.same("what -1", x.gap(5, 1, 9, 1, 2, -1), -1);
        Due.same("wide of int", x.gap(Integer.MAX_VALUE, Integer.MIN_VALUE, Integer.MAX_VALUE, 1, 1, 0), -1);
    }

    private static void abouts() {
        SpoutSpring x = new SpoutSpring();
        Due.spring(x, 1, Springs.GEYSER);
        Due.spring(x, 2, Springs.GEYSER + "join n c wide 1;");
        Due.laws(x, "boil 100;");
        x.sight(1, 1);
        x.untell(0);
        x.log(1, 1, true);
        x.log(1, 1, true);
        x.later(9);
        x.feed(0, 0, 0, 0, 0);
        int[] due = {0, 2, 2, 0, 0, 0, 1, 0, 1, 1, 2, 9, 20};
        for (int what = 0; what < due.length; what++) {
            Due.same("about " + what, x.about(what), due[what]);
        }
        Due.same("about 13", x.about(13), -1);
        Due.same("about -1", x.about(-1), -1);
    }
}
