/** Springs that more than one test tells, and how one is written. */
final class Springs {
    /** Spouts in the seconds 3, 6, 9 ..: 9 grains of the neck's 10. */
    static final String GEYSER = "neck n depth 0 holds 10 wide 9 hot 0 cold 5 up air; "
        + "room c depth 10 holds 10 wide 5 hot 500 cold 10 up n;";
    /** With CLOCK_LAWS and no warmth in the cold: throws what t has gathered, 8, in the seconds 4, 8, 12 .. */
    static final String CLOCK = "neck t depth 0 holds 10 wide 10 hot 0 cold 2 up air;"
        + "room b depth 9 holds 1 wide 0 hot 100 cold 1 up t;";
    static final String CLOCK_LAWS = "boil 350; lift 30;";
    /** Without warmth in the cold it throws 10 in every second. */
    static final String JET = "neck t depth 0 holds 10 wide 10 hot 0 cold 10 up air;"
        + "room b depth 9 holds 5 wide 0 hot 999 cold 5 up t;";
    static final String POND = "room a depth 0 holds 20 wide 0 hot 0 cold 3 up air;";

    private Springs() {
    }

    /** A new object with a spring on shelf 0, laws and cold. */
    static SpoutSpring with(String spring, String laws, int cold) {
        SpoutSpring x = new SpoutSpring();
        Due.yes("spring stands: " + spring, Due.spring(x, 0, spring) >= 0);
        Due.yes("laws stand: " + laws, Due.laws(x, laws) >= 0);
        Due.yes("cold stands", x.cold(cold));
        return x;
    }

    /** A room's line; head is its kind and name, the numbers are depth, holds, wide, hot and cold. */
    static String line(String head, String up, int... numbers) {
        String[] words = {"depth", "holds", "wide", "hot", "cold"};
        StringBuilder text = new StringBuilder(head);
        for (int i = 0; i < words.length; i++) {
            text.append(' ').append(words[i]).append(' ').append(numbers[i]);
        }
        return text.append(" up ").append(up).append(';').toString();
    }
}
