/**
 * The edges of the tape and of the texts (promises 1 to 6 and what "Terms" says of their words), sentence by sentence:
 * the last input that is taken, the first that is refused, and what stands behind a refused one.
 */
public final class TextEdgeTest {
    private static final String SIGNS = ";()<>=+-*/";
    private static final String[] RESERVED = {"room", "neck", "pool", "depth", "holds", "wide", "hot", "cold", "up",
        "air", "join", "boil", "lift", "cool", "or", "and", "not", "above", "water", "warm"};
    private static final String TWO = Springs.line("room a", "air", 5, 9, 3, 0, 1) + Springs.line("pool b", "a", 6, 9, 3, 0, 1);

    private TextEdgeTest() {
    }

    public static void main(String[] args) {
        newObject();
        feedUpTo900();
        bytesOfFeed();
        endAtItsFirstBytes();
        bytesBehindTheEnd();
        shelvesOfSpring();
        springOf900Bytes();
        oneByteTexts();
        lengthsOfWords();
        lengthsOfNumbers();
        lettersBehindNumbers();
        blanks();
        wordsThatAreNoNames();
        countsOfRooms();
        countsOfJoins();
        numbersOfRooms();
        numbersOfJoins();
        upsToldAhead();
        upsLessDeep();
        namesOfJoins();
        namesTold();
        firstFaultByPlace();
        everyCut();
        lawsOf300Bytes();
        lawsEachOnce();
        lawsThatStay();
        unitsOfLaws();
        nestsOfLaws();
        relations();
        faultOfLatest();
        Due.finish("TextEdgeTest");
    }

    private static void fault(String text, int what, int place) {
        SpoutSpring x = new SpoutSpring();
        Due.same("a spring ahead", Due.spring(x, 2, Springs.POND), 1);
        Due.same("spring of " + text, Due.spring(x, 2, text), -1);
        Due.same("fault of " + text, x.fault(0), what);
        Due.same("place in " + text, x.fault(1), place);
        Due.same("it stays, behind " + text, x.about(2), 1);
        Due.same("its water stays, behind " + text, x.room(2, 7, 0, 0), 20);
        Due.same("the tape is empty behind " + text, x.about(12), 0);
    }

    /** The fault stands where the mark ^ stands. */
    private static void marked(String text, int what) {
        fault(text.replace("^", ""), what, text.indexOf('^'));
    }

    private static void stands(String text, int rooms) {
        SpoutSpring x = new SpoutSpring();
        Due.same("spring of " + text, Due.spring(x, 1, text), rooms);
        Due.same("fault of " + text, x.fault(0), 0);
        Due.same("place of " + text, x.fault(1), -1);
    }

    private static void lawsFault(String marked, int what) {
        SpoutSpring x = new SpoutSpring();
        String text = marked.replace("^", "");
        Due.same("laws of " + text, Due.laws(x, text), -1);
        Due.same("fault of " + text, x.fault(0), what);
        Due.same("place in " + text, x.fault(1), marked.indexOf('^'));
    }

    private static void lawsStand(String text, int lines) {
        SpoutSpring x = new SpoutSpring();
        Due.same("laws of " + text, Due.laws(x, text), lines);
        Due.same("fault of " + text, x.fault(0), 0);
        Due.same("place of " + text, x.fault(1), -1);
    }

    // ---- 1 to 3

    /** "Empty SHELVES, no LAWS." and what else is so "at first". */
    private static void newObject() {
        SpoutSpring x = new SpoutSpring();
        for (int what = 0; what <= 12; what++) {
            Due.same("about " + what + " at first", x.about(what), 0);
        }
        Due.same("without fault", x.fault(0), 0);
        Due.same("without place", x.fault(1), -1);
        for (int shelf = 0; shelf < 4; shelf++) {
            Due.same("no room", x.room(shelf, 0, 0, 0), -1);
            Due.same("no plays", x.plays(shelf, 1000), 0);
            Due.same("no water", x.book(shelf, 1000, 3), 0);
        }
        Due.same("no log: all fit", x.fits(), 15);
        Due.no("no sight to untell", x.untell(0));
        Due.same("no logs to clear", x.clear(), 0);
    }

    /** "NONE, and nothing comes, if there would be more than 900." */
    private static void feedUpTo900() {
        for (int ahead = 879; ahead <= 900; ahead++) {
            SpoutSpring x = new SpoutSpring();
            for (int i = 0; i < 45; i++) {
                Due.same("feed", x.feed(0x20202020, 0, 0, 0, 0), 20 * i + 20);
            }
            Due.same("end", x.end(ahead), ahead);
            int due = ahead <= 880 ? ahead + 20 : -1;
            Due.same("feed behind " + ahead, x.feed(1, 2, 3, 4, 5), due);
            Due.same("on the tape behind " + ahead, x.about(12), due < 0 ? ahead : due);
            Due.same("feed again", x.feed(1, 2, 3, 4, 5), -1);
            Due.same("end of what never came", x.end(901), -1);
        }
    }

    /** "Twenty bytes come behind those on the TAPE, of each number the highest first". */
    private static void bytesOfFeed() {
        for (int at = 0; at < 20; at++) {
            SpoutSpring x = new SpoutSpring();
            int[] n = {0x20202020, 0x20202020, 0x20202020, 0x20202020, 0x20202020};
            n[at / 4] ^= (0x20 ^ 200 + at) << 24 - at % 4 * 8;
            x.feed(n[0], n[1], n[2], n[3], n[4]);
            Due.same("a byte that is no token", x.laws(), -1);
            Due.same("its sort", x.fault(0), 1);
            Due.same("its place", x.fault(1), at);
        }
        SpoutSpring x = new SpoutSpring();
        x.feed(-1, -1, -1, -1, -1);
        Due.same("end", x.end(0), 0);
        x.feed(0x626f696c, 0x20373b20, 0x20202020, 0x20202020, 0x20202020);
        x.feed(0x20202020, 0x20202020, 0x20202020, 0x20202020, 0x2020203b);
        Due.same("the second twenty behind the first", x.laws(), -1);
        Due.same("the sign at the very end", x.fault(1), 39);
    }

    /** "NONE, doing nothing, if it has not so many, or n is below 0." */
    private static void endAtItsFirstBytes() {
        SpoutSpring x = new SpoutSpring();
        int[] bad = {-1, 21, 900, 901, Integer.MIN_VALUE, Integer.MAX_VALUE};
        x.feed(0, 0, 0, 0, 0);
        for (int n : bad) {
            Due.same("end " + n, x.end(n), -1);
            Due.same("nothing done by end " + n, x.about(12), 20);
        }
        Due.same("all it has", x.end(20), 20);
        Due.same("one less", x.end(19), 19);
        Due.same("not so many any more", x.end(20), -1);
        Due.same("nineteen stay", x.about(12), 19);
        Due.same("feed behind them", x.feed(0, 0, 0, 0, 0), 39);
        Due.same("none", x.end(0), 0);
        Due.same("none again", x.end(0), 0);
        Due.same("one of none", x.end(1), -1);
        Due.same("feed", x.feed(0, 0, 0, 0, 0), 20);
        // The first bytes stay, not the last.
        x.end(0);
        Due.write(x, "boil 7;%%%");
        Due.same("cut", x.end(7), 7);
        Due.same("what is left stands", x.laws(), 1);
    }

    /** "The TAPE has its first n bytes": what stood behind them is no part of a TOKEN. */
    private static void bytesBehindTheEnd() {
        String[] texts = {"boil 12;", "boil 1a;", "boil 1 andy;", "boilx 1;", "boil 1;lift 2;", "boil (1);", "boil 1,"};
        for (String text : texts) {
            for (int n = 0; n <= text.length(); n++) {
                SpoutSpring x = new SpoutSpring();
                Due.write(x, text);
                x.end(n);
                SpoutSpring y = new SpoutSpring();
                Due.write(y, text.substring(0, n) + " ".repeat(20));
                y.end(n);
                Due.same("first " + n + " of " + text, x.laws(), y.laws());
                Due.same("fault of first " + n + " of " + text, x.fault(0), y.fault(0));
                Due.same("place in first " + n + " of " + text, x.fault(1), y.fault(1));
            }
        }
        SpoutSpring x = new SpoutSpring();
        Due.write(x, "boil 12;");
        x.end(6);
        Due.same("boil 1", x.laws(), -1);
        Due.same("2 at its end", x.fault(0), 2);
        Due.same("its end", x.fault(1), 6);
        Due.write(x, "room a depth 6123");
        x.end(14);
        Due.same("depth 6", x.spring(0), -1);
        Due.same("2 at its end", x.fault(0), 2);
        Due.same("its end", x.fault(1), 14);
    }

    // ---- 4

    /** "-2, and the TAPE stays, if there is no such SHELF." */
    private static void shelvesOfSpring() {
        SpoutSpring x = new SpoutSpring();
        int[] bad = {-1, 4, -2, 5, Integer.MIN_VALUE, Integer.MAX_VALUE};
        Due.same("a fault ahead", Due.spring(x, 0, "room room"), -1);
        Due.write(x, Springs.POND);
        for (int shelf : bad) {
            Due.same("shelf " + shelf, x.spring(shelf), -2);
            Due.same("the tape stays", x.about(12), Springs.POND.length());
            Due.same("the fault ahead stays", x.fault(0), 2);
            Due.same("its place stays", x.fault(1), 5);
        }
        Due.same("shelf 3", x.spring(3), 1);
        Due.same("shelf 0", Due.spring(x, 0, TWO), 2);
        Due.same("the others are empty", x.about(1) + x.about(2), 0);
        Due.same("shelf 3 has its own", x.about(3), 1);
        Due.same("an empty tape empties a shelf", x.spring(3), 0);
        Due.same("no rooms there", x.about(3), 0);
        Due.same("shelf 0 stays", x.about(0), 2);
    }

    /** "A SPRING is a text of at most 900 bytes"; "the end: the text's length". */
    private static void springOf900Bytes() {
        String pad = " ".repeat(900 - Springs.POND.length());
        stands(pad + Springs.POND, 1);
        stands(Springs.POND + pad, 1);
        String open = Springs.POND.substring(0, Springs.POND.length() - 1);
        fault(pad + " " + open, 2, 900);
        fault(open + pad + "\n", 2, 900);
        fault(pad + open + ",", 1, 899);
        stands(TWO + " ".repeat(899 - TWO.length()) + "\n", 2);
    }

    /** Each byte by itself: blanks, words, N and signs are TOKENS (that can't stand there), all else is none. */
    private static void oneByteTexts() {
        for (int b = 0; b < 256; b++) {
            boolean token = b >= 'a' && b <= 'z' || b >= '0' && b <= '9' || SIGNS.indexOf(b) >= 0;
            int due = b == 32 || b == 10 ? 0 : token ? 2 : 1;
            SpoutSpring x = new SpoutSpring();
            x.feed(b << 24, 0, 0, 0, 0);
            x.end(1);
            Due.same("spring of byte " + b, x.spring(0), due == 0 ? 0 : -1);
            Due.same("its fault, byte " + b, x.fault(0), due);
            Due.same("its place, byte " + b, x.fault(1), due == 0 ? -1 : 0);
            x.feed(b << 24, 0, 0, 0, 0);
            x.end(1);
            Due.same("laws of byte " + b, x.laws(), due == 0 ? 0 : -1);
            Due.same("their fault, byte " + b, x.fault(0), due);
            // Behind a word, an N and a sign it is no other sort.
            if (due != 2) {
                fault("room a" + (char) b, due == 0 ? 2 : 1, due == 0 ? 7 : 6);
                fault("room a depth 61" + (char) b, 4, 13);
                fault("room a depth 60" + (char) b, due == 0 ? 2 : 1, due == 0 ? 16 : 15);
                fault(Springs.POND + (char) b + ";", due == 0 ? 2 : 1, Springs.POND.length() + (due == 0 ? 1 : 0));
            }
        }
    }

    /** "words (a .. z, 8 at most)"; "a longer word .. 1 at its first byte". */
    private static void lengthsOfWords() {
        stands(Springs.line("room a", "air", 0, 9, 0, 0, 1), 1);
        stands(Springs.line("room azazazaz", "air", 0, 9, 0, 0, 1), 1);
        marked(Springs.line("room ^azazazaza", "air", 0, 9, 0, 0, 1), 1);
        marked(Springs.line("room ^" + "z".repeat(60), "air", 0, 9, 0, 0, 1), 1);
        marked("^roomroomr", 1);
        marked("^roomroom", 2);
        marked("room a ^depthdept 5", 1);
        marked("room a ^depthdep 5", 2);
        stands(Springs.line("room azazazaz", "air", 0, 9, 0, 0, 1) + Springs.line("room azazazay", "azazazaz", 1, 9, 0, 0, 1)
            + "join azazazaz azazazay wide 0;", 2);
        marked(Springs.line("room azazazaz", "air", 0, 9, 0, 0, 1) + Springs.line("room b", "^azazazaza", 1, 9, 0, 0, 1), 1);
        marked(TWO + "join ^abcdefghi b wide 3;", 1);
        marked(TWO + "join a ^abcdefghi wide 3;", 1);
        marked(TWO + "join a ^abcdefgh wide 3;", 5);
        lawsFault("boil ^abovewate;", 1);
        lawsFault("boil ^abovewat;", 2);
    }

    /** "N (1 to 4 digits)"; "more digits .. 1 at its first byte". */
    private static void lengthsOfNumbers() {
        stands("room a depth 0060 holds 0099 wide 0030 hot 0999 cold 0030 up air;", 1);
        stands("room a depth 0 holds 1 wide 0 hot 0 cold 0 up air;", 1);
        stands("room a depth 0000 holds 0001 wide 000 hot 00 cold 0 up air;", 1);
        marked("room a depth ^00060 holds 1", 1);
        marked("room a depth ^00000 holds 1", 1);
        marked("room a depth 0 holds ^00001", 1);
        marked("room a depth ^9999 holds 1", 4);
        marked("room a depth ^99999 holds 1", 1);
        marked("room a depth ^4294967296 holds 1", 1);
        marked("room ^12345", 1);
        marked("room ^1234", 2);
        marked("^1234", 2);
        marked("^12345", 1);
        lawsStand("boil 9999;", 1);
        lawsFault("boil ^10000;", 1);
        lawsFault("boil ^00001;", 1);
        lawsStand("boil 0001;", 1);
    }

    /** "no letter directly behind an N"; "an N with a letter behind it: 1 at its first byte". */
    private static void lettersBehindNumbers() {
        marked("room a depth ^0a", 1);
        marked("room a depth ^0z", 1);
        marked("room a depth ^0holds 9", 1);
        marked("room a depth ^61holds 9", 1);
        marked("room a depth ^1234b", 1);
        marked("room a depth 6 ^b", 2);
        marked("room a depth 6 ^;", 2);
        marked("room a depth 6^;", 2);
        marked("room a depth 6\n^b", 2);
        marked("room ^6b", 1);
        marked("^6room", 1);
        stands(Springs.POND.replace(" 0", "0").replace(" 20", "20").replace(" 3", "3"), 1);
        lawsStand("boil 1+2*3;", 1);
        lawsFault("boil ^1or 2;", 1);
        lawsStand("boil 1 or2;", 1);
        lawsStand("boil not1;", 1);
    }

    /** "blanks (32, 10) part them or not". */
    private static void blanks() {
        String text = Springs.POND + "neck b depth 3 holds 9 wide 0 hot 0 cold 3 up a;join a b wide 3;";
        stands(text.replace(' ', '\n'), 2);
        stands(text.replace(" ", " \n \n"), 2);
        stands("\n \n" + text + " \n", 2);
        stands(text.replace(";", " ;\n"), 2);
        marked(text.replace(" ", "\t").replace("room\t", "room^\t"), 1);
        marked(text.replace("room ", "room^\r"), 1);
        marked(text.replace("room ", "room^" + (char) 11), 1);
        marked(text.replace("room ", "room^" + (char) 160), 1);
        marked("^rooma depth 0", 2);
        marked("room adepth ^0", 2);
        lawsStand("\nboil\n1\n;\nlift\n2;", 2);
        lawsStand("boil(1)<(2);lift(3)and(4);", 2);
        lawsFault("boil^1or;", 1);
    }

    /** "Words that stand for themselves here and in LAWS .. are no NAMES." */
    private static void wordsThatAreNoNames() {
        for (String word : RESERVED) {
            marked(Springs.line("room ^" + word, "air", 0, 9, 0, 0, 1), 2);
            if (!word.equals("air")) {
                marked(Springs.POND + Springs.line("room b", "^" + word, 1, 9, 0, 0, 1), 2);
            }
            marked(TWO + "join ^" + word + " b wide 3;", 2);
            marked(TWO + "join a ^" + word + " wide 3;", 2);
            stands(Springs.line("room " + word + "s", "air", 0, 9, 0, 0, 1), 1);
            stands(Springs.line("room q" + word, "air", 0, 9, 0, 0, 1), 1);
            stands(Springs.line("room " + word.substring(1), "air", 0, 9, 0, 0, 1), 1);
            stands(Springs.line("room " + word.substring(0, word.length() - 1), "air", 0, 9, 0, 0, 1), 1);
        }
        // NAMES are not the signs that laws have, nor what only looks like them.
        stands(Springs.line("room spring", "air", 0, 9, 0, 0, 1) + Springs.line("room laws", "spring", 1, 9, 0, 0, 1), 2);
    }

    // ---- the lines

    private static String rooms(int many) {
        String[] kinds = {"room r", "neck r", "pool r"};
        StringBuilder text = new StringBuilder();
        for (int r = 0; r < many; r++) {
            text.append(Springs.line(kinds[r % 3] + (char) ('a' + r), "air", r, 9, 1, 2, 3));
        }
        return text.toString();
    }

    /** "At most 8 ROOMS"; "a 9th ROOM .. at the line's first word". */
    private static void countsOfRooms() {
        for (int many = 0; many <= 8; many++) {
            stands(rooms(many), many);
        }
        String[] kinds = {"room", "neck", "pool"};
        for (String kind : kinds) {
            marked(rooms(8) + "^" + kind, 2);
            marked(rooms(8) + " \n^" + kind + " x depth 61", 2);
            marked(rooms(8) + "^" + kind + " ra", 2);
            marked(rooms(8) + "^" + kind + " ,", 2);
            marked(rooms(7) + Springs.line(kind + " x", "air", 0, 9, 0, 0, 1) + "^" + kind + " y", 2);
        }
        SpoutSpring x = new SpoutSpring();
        Due.same("eight", Due.spring(x, 0, rooms(8)), 8);
        Due.same("the eighth's water", x.room(0, 1, 7, 0), 3);
        Due.same("no ninth", x.room(0, 1, 8, 0), -1);
        Due.same("a ninth is refused", Due.spring(x, 0, rooms(9)), -1);
        Due.same("eight stay", x.about(0), 8);
    }

    /** "At most 4 JOINS of two ROOMS"; "5th JOIN: at the line's first word". */
    private static void countsOfJoins() {
        String join = "join a b wide 3;";
        for (int many = 0; many <= 4; many++) {
            SpoutSpring x = new SpoutSpring();
            Due.same("rooms", Due.spring(x, 3, TWO + join.repeat(many)), 2);
            Due.same("joins", x.about(7), many);
        }
        marked(TWO + join.repeat(4) + "^" + join, 2);
        marked(TWO + join.repeat(4) + " ^join join", 2);
        marked(TWO + join.repeat(4) + "^join ;", 2);
        stands(TWO + join.repeat(4) + Springs.line("room c", "b", 9, 9, 0, 0, 1), 3);
        marked(TWO + join.repeat(4) + Springs.line("room c", "b", 9, 9, 0, 0, 1) + "^" + join, 2);
        marked(rooms(8) + "join ra rb wide 3;".repeat(4) + "^join ra rb wide 3;", 2);
        marked(rooms(8) + "join ra rb wide 3;".repeat(4) + "^room", 2);
        SpoutSpring x = new SpoutSpring();
        Due.same("two joins", Due.spring(x, 0, TWO + join + join), 2);
        Due.same("a fault", Due.spring(x, 0, TWO + join.repeat(5)), -1);
        Due.same("two joins stay", x.about(4), 2);
        Due.same("less joins", Due.spring(x, 0, TWO), 2);
        Due.same("none any more", x.about(4), 0);
    }

    /** "(depth 0 .. 60, holds 1 .. 99, wide 0 .. 30, hot 0 .. 999, cold 0 .. 30)". */
    private static void numbersOfRooms() {
        int[] least = {0, 1, 0, 0, 0};
        int[] most = {60, 99, 30, 999, 30};
        String[] words = {"depth ", "holds ", "wide ", "hot ", "cold "};
        String[] heads = {"room a", "neck a", "pool a"};
        for (String head : heads) {
            for (int i = 0; i < 5; i++) {
                int[] n = {7, 8, 9, 10, 11};
                n[i] = least[i];
                stands(Springs.line(head, "air", n), 1);
                n[i] = most[i];
                stands(Springs.line(head, "air", n), 1);
                n[i] = most[i] + 1;
                String text = Springs.line(head, "air", n);
                fault(text, 4, text.indexOf(words[i]) + words[i].length());
                n[i] = 9999;
                fault(Springs.line(head, "air", n), 4, text.indexOf(words[i]) + words[i].length());
            }
            marked(head + " depth 0 holds ^0 wide 0 hot 0 cold 0 up air;", 4);
            marked(head + " depth 0 holds ^0000 wide 0 hot 0 cold 0 up air;", 4);
            marked(head + " depth ^- 1", 2);
            marked(head + " depth ^;", 2);
            marked(head + " depth 1 ^;", 2);
            marked(head + " depth 1 holds 1 wide 1 hot 1 cold ^;", 2);
            marked(head + " depth 1 holds 1 wide 1 hot 1 cold 1^;", 2);
            marked(head + " depth 1 holds 1 wide 1 hot 1 cold 1 up ^;", 2);
            marked(head + " depth 1 holds 1 wide 1 hot 1 cold 1 ^air;", 2);
            marked(head + " depth 1 holds 1 wide 1 hot 1 ^up air;", 2);
            marked(head + " ^holds 1 depth 1", 2);
            marked(head + " depth 1 ^wide 1", 2);
            marked(head + " depth 1 holds 1 ^hot 1", 2);
            marked(head + " depth 1 holds 1 wide 1 ^cold 1", 2);
            marked(head + " depth 1 ^1", 2);
        }
        // The numbers are in use, each for what it is.
        SpoutSpring x = new SpoutSpring();
        Due.spring(x, 0, Springs.line("room a", "air", 60, 99, 30, 999, 30));
        Due.laws(x, "boil depth + water + 850;");
        Due.same("depth 60", x.room(0, 0, 0, 3), 910);
        Due.same("cold 30", x.room(0, 1, 0, 0), 30);
        Due.same("hot 999, no more than 999 * water", x.room(0, 1, 0, 1), 1299);
        Due.spring(x, 0, Springs.line("room a", "air", 0, 99, 0, 0, 30));
        Due.same("holds 99", x.room(0, 9, 0, 0), 99);
        Due.spring(x, 0, Springs.line("room a", "air", 0, 1, 0, 0, 30));
        Due.same("holds 1", x.room(0, 9, 0, 0), 1);
    }

    /** "(wide 0 .. 30)" of a JOIN. */
    private static void numbersOfJoins() {
        stands(TWO + "join a b wide 0;", 2);
        stands(TWO + "join b a wide 30;", 2);
        stands(TWO + "join b a wide 0030;", 2);
        marked(TWO + "join a b wide ^31;", 4);
        marked(TWO + "join a b wide ^9999;", 4);
        marked(TWO + "join a b wide ^00030;", 1);
        marked(TWO + "join a b wide ^;", 2);
        marked(TWO + "join a b ^3;", 2);
        marked(TWO + "join a ^wide 3;", 2);
        marked(TWO + "join ^;", 2);
        marked(TWO + "join a b wide 3^", 2);
        marked(TWO + "join a b wide 3 ^hot 3;", 2);
    }

    /** "the ROOM above one (up) is told ahead of it"; "a NAME that no ROOM has (that was told ahead)". */
    private static void upsToldAhead() {
        marked(Springs.line("room a", "^b", 5, 9, 0, 0, 1), 5);
        marked(Springs.line("room a", "^a", 5, 9, 0, 0, 1), 5);
        marked(Springs.line("room a", "^b", 5, 9, 0, 0, 1) + Springs.line("room b", "air", 0, 9, 0, 0, 1), 5);
        marked(Springs.line("room ab", "air", 0, 9, 0, 0, 1) + Springs.line("room b", "^a", 5, 9, 0, 0, 1), 5);
        marked(Springs.line("room ab", "air", 0, 9, 0, 0, 1) + Springs.line("room b", "^abc", 5, 9, 0, 0, 1), 5);
        stands(Springs.line("room ab", "air", 0, 9, 0, 0, 1) + Springs.line("room b", "ab", 5, 9, 0, 0, 1), 2);
        // A ROOM of another SHELF, or of a text that was refused, is none.
        SpoutSpring x = new SpoutSpring();
        Due.spring(x, 0, Springs.line("room old", "air", 0, 9, 0, 0, 1));
        Due.same("a room of shelf 0", Due.spring(x, 1, Springs.line("room b", "old", 5, 9, 0, 0, 1)), -1);
        Due.same("no such name", x.fault(0), 5);
        Due.same("a room of the spring ahead", Due.spring(x, 0, Springs.line("room b", "old", 5, 9, 0, 0, 1)), -1);
        Due.same("no such name", x.fault(0), 5);
    }

    /** "and its depth is less"; "6 (at that NAME) an up whose depth is not less". */
    private static void upsLessDeep() {
        for (int depth = 0; depth <= 60; depth++) {
            String text = Springs.line("room a", "air", 30, 9, 0, 0, 1) + Springs.line("room b", "a", depth, 9, 0, 0, 1);
            if (depth > 30) {
                stands(text, 2);
            } else {
                fault(text, 6, text.length() - 2);
            }
        }
        stands(Springs.line("room a", "air", 59, 9, 0, 0, 1) + Springs.line("room b", "a", 60, 9, 0, 0, 1), 2);
        marked(Springs.line("room a", "air", 60, 9, 0, 0, 1) + Springs.line("room b", "^a", 60, 9, 0, 0, 1), 6);
        // The depth ahead is looked at first: 61 can't be.
        marked(Springs.line("room a", "air", 60, 9, 0, 0, 1) + "room b depth ^61 holds 9 wide 0 hot 0 cold 1 up a;", 4);
        // Its up's depth counts, not that of the room told just ahead.
        stands(Springs.line("room a", "air", 3, 9, 0, 0, 1) + Springs.line("room b", "air", 50, 9, 0, 0, 1)
            + Springs.line("room c", "a", 4, 9, 0, 0, 1), 3);
        marked(Springs.line("room a", "air", 3, 9, 0, 0, 1) + Springs.line("room b", "air", 50, 9, 0, 0, 1)
            + Springs.line("room c", "^b", 4, 9, 0, 0, 1), 6);
    }

    /** "5 a NAME that no ROOM has"; "6 .. a JOIN's second NAME like the first". */
    private static void namesOfJoins() {
        marked("join ^a b wide 3;", 5);
        marked(TWO + "join ^c b wide 3;", 5);
        marked(TWO + "join a ^c wide 3;", 5);
        marked(TWO + "join ^c c wide 3;", 5);
        marked(TWO + "join a ^a wide 3;", 6);
        marked(TWO + "join b ^b wide 3;", 6);
        marked(TWO + "join ^c b wide 3;" + Springs.line("room c", "air", 0, 9, 0, 0, 1), 5);
        marked(TWO + "join b ^c wide 3;" + Springs.line("room c", "air", 0, 9, 0, 0, 1), 5);
        stands(TWO + Springs.line("room c", "air", 0, 9, 0, 0, 1) + "join b c wide 3;", 3);
        stands(TWO + "join b a wide 3;join a b wide 3;", 2);
        marked(TWO + "join a ^air wide 3;", 2);
    }

    /** "3 a NAME told already". */
    private static void namesTold() {
        marked(TWO + "room ^a", 3);
        marked(TWO + "neck ^b", 3);
        marked(TWO + "pool ^a depth 61", 3);
        stands(TWO + Springs.line("room ab", "a", 9, 9, 0, 0, 1) + Springs.line("room ba", "a", 9, 9, 0, 0, 1)
            + Springs.line("room aa", "a", 9, 9, 0, 0, 1), 5);
        marked(rooms(7) + "room ^rg", 3);
        marked(rooms(7) + "room ^ra", 3);
        // A NAME of another SHELF, or of what stood there ahead, is free.
        SpoutSpring x = new SpoutSpring();
        Due.same("shelf 0", Due.spring(x, 0, TWO), 2);
        Due.same("shelf 1", Due.spring(x, 1, TWO), 2);
        Due.same("shelf 0 again", Due.spring(x, 0, TWO), 2);
        Due.same("a fault behind a name", Due.spring(x, 0, Springs.line("room c", "air", 0, 9, 0, 0, 1) + "room"), -1);
        Due.same("the name is free", Due.spring(x, 0, Springs.line("room c", "air", 0, 9, 0, 0, 1)), 1);
    }

    /** "FAULTS, the first by its place .., at one place the least". */
    private static void firstFaultByPlace() {
        marked("room a depth ^61 holds 0 ,", 4);
        marked("room a depth 60 holds ^0 wide 31", 4);
        marked("room a depth 60 holds 1 wide ^31 ,", 4);
        marked("room a depth ^12345 holds 0", 1);
        marked("room a depth ^, holds 0", 1);
        marked(TWO + "room ^a depth 61", 3);
        marked(TWO + "room ^abcdefghi", 1);
        marked(TWO + "room c depth 5 holds 9 wide 0 hot 0 cold 1 up ^a wide", 6);
        marked(TWO + "room c depth 6 holds 9 wide 0 hot 0 cold 1 up a ^wide", 2);
        marked(TWO + "room c depth 6 holds 9 wide 0 hot 0 cold 1 up a ^, wide", 1);
        marked(TWO + "join a ^a wide 31;", 6);
        marked(TWO + "join a b wide ^31 31;", 4);
        marked("^; ,", 2);
        marked("^, ;", 1);
    }

    /** A text that ends too early: 2 at its end, wherever it is cut between two TOKENS. */
    private static void everyCut() {
        String text = Springs.POND + Springs.line("neck bb", "a", 9, 9, 0, 0, 1) + "join a bb wide 3;";
        for (int n = 0; n < text.length(); n++) {
            char ahead = n == 0 ? ';' : text.charAt(n - 1);
            if (ahead == ';') {
                int lines = 0;
                for (int i = 0; i < n; i++) {
                    lines += text.charAt(i) == ';' ? 1 : 0;
                }
                stands(text.substring(0, n), lines);
            } else if (text.charAt(n) == ' ' || text.charAt(n) == ';') {
                fault(text.substring(0, n), 2, n);
                fault(text.substring(0, n) + " \n", 2, n + 2);
            }
        }
    }

    // ---- 5

    /** "-2, and the TAPE stays: more than 300 bytes." */
    private static void lawsOf300Bytes() {
        int[] lengths = {301, 302, 600, 899, 900};
        for (int length : lengths) {
            SpoutSpring x = new SpoutSpring();
            Due.laws(x, "boil 7;");
            Due.spring(x, 0, "room 5");
            Due.write(x, "boil 9;" + " ".repeat(length - 7));
            Due.same("laws of " + length, x.laws(), -2);
            Due.same("the tape stays", x.about(12), length);
            Due.same("the fault stays", x.fault(0), 2);
            Due.same("its place stays", x.fault(1), 5);
            Due.same("the laws stay", x.about(8), 1);
            Due.same("the tape is a spring's yet", x.spring(0), -1);
            Due.same("its fault", x.fault(1), 0);
        }
        lawsStand("boil 9;" + " ".repeat(293), 1);
        lawsStand("\n".repeat(293) + "boil 9;", 1);
        lawsStand(" ".repeat(300), 0);
        lawsFault(" ".repeat(294) + "boil 9^", 2);
        lawsFault(" ".repeat(292) + "boil 9;^%", 1);
    }

    /** "Each once."; "a line a second time: at its first word". */
    private static void lawsEachOnce() {
        String[] all = {"boil", "lift", "cool"};
        for (String one : all) {
            lawsStand(one + " 1;", 1);
            lawsFault(one + " 1; ^" + one + " 1;", 2);
            lawsFault(one + " 1;^" + one, 2);
            for (String other : all) {
                if (!other.equals(one)) {
                    lawsStand(one + " 1;" + other + " 1;", 2);
                    lawsFault(one + " 1;" + other + " 1; ^" + one + " 1;", 2);
                    lawsFault(one + " 1;" + other + " 1; ^" + other + " ,", 2);
                }
            }
            lawsFault("cool 1;lift 1;boil 1; ^" + one + " 1;", 2);
            lawsFault(one + "^", 2);
            lawsFault(one + " ^;", 2);
            lawsFault(one + " 1^", 2);
        }
        lawsStand("cool 1;lift 1;boil 1;", 3);
        lawsStand("", 0);
        for (String word : RESERVED) {
            boolean law = word.equals("boil") || word.equals("lift") || word.equals("cool");
            if (!law) {
                lawsFault("^" + word + " 1;", 2);
            }
        }
        lawsFault("^1;", 2);
        lawsFault("^;", 2);
        lawsFault("boil 1;^;", 2);
    }

    /** "NONE: a FAULT (those there are stay)"; LAWS are for all SHELVES, and none are told when the text is empty. */
    private static void lawsThatStay() {
        SpoutSpring x = new SpoutSpring();
        Due.spring(x, 3, Springs.POND);
        Due.same("boil not told", x.room(3, 0, 0, 3), 100);
        Due.same("laws", Due.laws(x, "boil 7; cool 1;"), 2);
        Due.same("boil", x.room(3, 0, 0, 3), 7);
        Due.same("cooled twice", x.room(3, 2, 0, 1), 58);
        Due.same("a fault", Due.laws(x, "boil 9; cool 2; lift"), -1);
        Due.same("boil stays", x.room(3, 0, 0, 3), 7);
        Due.same("cool stays", x.room(3, 2, 0, 1), 58);
        Due.same("lines stay", x.about(8), 2);
        Due.same("the tape is empty", x.about(12), 0);
        Due.same("another text", Due.laws(x, "boil 9;"), 1);
        Due.same("another boil", x.room(3, 0, 0, 3), 9);
        Due.same("cool is not told any more", x.room(3, 2, 0, 1), 60);
        Due.same("none", x.laws(), 0);
        Due.same("boil is not told any more", x.room(3, 0, 0, 3), 100);
        Due.same("a fault of a spring", Due.spring(x, 3, "boil"), -1);
        Due.same("lines", x.about(8), 0);
    }

    /** "40 units in all"; "a 41st unit .. at its first TOKEN". */
    private static void unitsOfLaws() {
        String forty = "1" + "+1".repeat(39);
        lawsStand("boil " + forty + ";", 1);
        lawsFault("boil " + forty + "+^1;", 2);
        lawsFault("boil " + forty + "+^warm;", 2);
        lawsFault("boil " + forty + "+^(1);", 2);
        lawsFault("boil " + forty + "+^(,", 2);
        lawsFault("boil " + forty + "+^,", 1);
        lawsFault("boil " + forty + "+^;", 2);
        lawsFault("boil " + forty + " and not not ^1;", 2);
        lawsFault("boil " + forty + " < ^1;", 2);
        lawsFault("boil " + forty + "; lift ^1;", 2);
        lawsFault("boil " + forty + "; ^boil 1;", 2);
        lawsStand("boil 1" + "*1".repeat(12) + "; cool depth" + "-above".repeat(12) + "; lift 1" + " or 1".repeat(13) + ";", 3);
        lawsFault("boil 1" + "*1".repeat(12) + "; cool depth" + "-above".repeat(12) + "; lift 1" + " or 1".repeat(13)
            + " or ^1;", 2);
        // ( e ) is a unit too, by its first TOKEN ahead of those within it.
        lawsStand("boil (" + "1" + "+1".repeat(38) + ");", 1);
        lawsFault("boil (" + "1" + "+1".repeat(38) + "+^1);", 2);
        lawsStand("boil " + "(1)+".repeat(19) + "(1);", 1);
        lawsFault("boil " + "(1)+".repeat(20) + "^1;", 2);
        lawsFault("boil " + "(1)+".repeat(19) + "1+(^1);", 2);
        lawsFault("boil " + "(1)+".repeat(19) + "1+1+^(1);", 2);
        // The count begins anew with each text.
        SpoutSpring x = new SpoutSpring();
        for (int i = 0; i < 20; i++) {
            Due.same("forty", Due.laws(x, "boil " + forty + ";"), 1);
            Due.same("forty-one", Due.laws(x, "boil " + forty + "+1;"), -1);
        }
        Due.spring(x, 0, Springs.POND);
        Due.same("forty ones", x.room(0, 0, 0, 3), 40);
    }

    /** "a unit ( e ), or a one behind not, within 6 others at most"; "what is within 7 others: at its first TOKEN, or the not". */
    private static void nestsOfLaws() {
        for (int nots = 0; nots <= 7; nots++) {
            int units = 7 - nots;
            String open = "not ".repeat(nots) + "(".repeat(units);
            String shut = ")".repeat(units);
            lawsStand("boil " + open + "1" + shut + ";", 1);
            lawsStand("boil " + open + "1 + water < 3 or 4" + shut + ";", 1);
            lawsFault("boil " + open + "^(1)" + shut + ";", 2);
            lawsFault("boil " + open + "^not 1" + shut + ";", 2);
            lawsFault("boil " + open + "^(,", 2);
            lawsFault("boil " + open + "^not ,", 2);
            if (units > 0) {
                lawsFault("boil " + open + "1 + 2 * ^(1)" + shut + ";", 2);
                lawsFault("boil " + open + "1 and ^not 1" + shut + ";", 2);
            }
        }
        String seven = "(".repeat(7) + "1" + ")".repeat(7);
        lawsStand("boil " + seven + " + " + seven + "; lift " + seven + " < " + seven + ";", 2);
        lawsStand("boil not not not not not not not 1 or not not not not not not not 1;", 1);
        lawsFault("boil (" + seven.replace("1", "^(1)").substring(1) + ";", 2);
        // A one behind not is within it to its end: its sums as well.
        lawsFault("boil not not not not not not not 1 < ^(2);", 2);
        lawsStand("boil not not not not not not 1 < (2);", 1);
        lawsStand("boil not not not not not not not 1 and (2);", 1);
        lawsFault("boil not not not not not not (1 and ^(2));", 2);
    }

    /** "one = not one | sum [(< | > | =) sum]": one relation at most, and no not in a sum. */
    private static void relations() {
        String[] signs = {"<", ">", "="};
        for (String sign : signs) {
            lawsStand("boil 1 " + sign + " 2;", 1);
            lawsStand("boil (1 " + sign + " 2) " + sign + " 3;", 1);
            lawsStand("boil 1 " + sign + " 2 and 2 " + sign + " 3 or not 3 " + sign + " 4;", 1);
            lawsFault("boil 1 " + sign + " 2 ^" + sign + " 3;", 2);
            lawsFault("boil 1 " + sign + "^" + sign + " 3;", 2);
            lawsFault("boil ^" + sign + " 3;", 2);
            lawsFault("boil 1 " + sign + " ^;", 2);
            lawsFault("boil 1 " + sign + " ^not 2;", 2);
        }
        lawsFault("boil 1 + ^not 2;", 2);
        lawsFault("boil 1 * ^not 2;", 2);
        lawsFault("boil ^- 2;", 2);
        lawsFault("boil ^+ 2;", 2);
        lawsFault("boil 1 +^+ 2;", 2);
        lawsFault("boil 1 *^/ 2;", 2);
        lawsFault("boil ^and 2;", 2);
        lawsFault("boil 1 and ^and 2;", 2);
        lawsFault("boil 1 ^not 2;", 2);
        lawsFault("boil 1 ^2;", 2);
        lawsFault("boil (1 ^2);", 2);
        lawsFault("boil (1^;", 2);
        lawsFault("boil (1^", 2);
        lawsFault("boil 1 ^);", 2);
        lawsFault("boil (^);", 2);
        lawsFault("boil ^hot;", 2);
        lawsFault("boil ^name;", 2);
    }

    // ---- 6

    /** "Of the latest of both that was not -2"; "0: without; ahead of any, too"; "NONE for another what". */
    private static void faultOfLatest() {
        SpoutSpring x = new SpoutSpring();
        int[] others = {-1, 2, 3, Integer.MIN_VALUE, Integer.MAX_VALUE};
        for (int what : others) {
            Due.same("ahead of any, what " + what, x.fault(what), -1);
        }
        x.spring(7);
        Due.same("-2 ahead of any", x.fault(0), 0);
        Due.same("-2 ahead of any", x.fault(1), -1);
        Due.laws(x, "boil ,");
        Due.same("of laws", x.fault(0), 1);
        Due.same("of laws", x.fault(1), 5);
        for (int what : others) {
            Due.same("behind a fault, what " + what, x.fault(what), -1);
        }
        x.spring(-1);
        Due.same("-2 does not count", x.fault(1), 5);
        Due.spring(x, 0, TWO + "room a");
        Due.same("of a spring", x.fault(0), 3);
        Due.same("of a spring", x.fault(1), TWO.length() + 5);
        Due.same("other calls leave it", x.plays(0, 9) + x.end(0) + x.fits(), 15);
        Due.no("refused ones too", x.cold(100) || x.untell(5) || x.high(0));
        Due.same("it is there yet", x.fault(0), 3);
        Due.laws(x, "");
        Due.same("laws without", x.fault(0), 0);
        Due.same("laws without", x.fault(1), -1);
        Due.spring(x, 0, "room b depth 0 holds 0");
        Due.same("of a spring", x.fault(0), 4);
        Due.write(x, " ".repeat(301));
        Due.same("-2", x.laws(), -2);
        Due.same("-2 of laws does not count", x.fault(0), 4);
        Due.same("a spring without", x.spring(0), 0);
        Due.same("a spring without", x.fault(0), 0);
        Due.same("a spring without", x.fault(1), -1);
        Due.spring(x, 0, TWO + "join a c");
        Due.same("5", x.fault(0), 5);
        Due.spring(x, 0, TWO + "join a a");
        Due.same("6", x.fault(0), 6);
    }
}
