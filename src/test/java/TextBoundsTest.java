/**
 * The text of a BOOK at its bounds: of each WHOLE, NAME and LINE the last one
 * that is taken and the first that is a FAULT, and its place.
 */
public final class TextBoundsTest {
    private static final String WALL = "wall wide 3 high 2 keeps 1 parts 0;";
    private static final String COLOUR = "colour c thick 1 fades 0 since 0;";
    private static final String HAND = "hand h;";
    private static final String ALL = WALL + COLOUR + HAND;
    private static final String BOX = "0,0 to 0,0";
    private static final String[] KEPT_WORDS = {"wall", "colour", "hand", "work", "contract", "want"};

    private final Bounds b = new Bounds();

    public static void main(String[] args) {
        TextBoundsTest test = new TextBoundsTest();
        test.wall();
        test.keepsOfEveryWall();
        test.colour();
        test.work();
        test.patch();
        test.contract();
        test.lettersOfWords();
        test.digitsOfWholes();
        test.blanks();
        test.semicolons();
        test.keptWordsAreNoNames();
        test.otherWordsAreNames();
        test.toldOnce();
        test.aheadOfUse();
        test.ofAnotherSort();
        test.fiveColours();
        test.fiveHands();
        test.fourPatches();
        test.nineWorks();
        test.fourContracts();
        test.oneWall();
        test.oneWant();
        test.lacks();
        test.noWallAtTheEnd();
        test.endsWithinLines();
        test.wrongTokensWithinLines();
        test.leastOfOnePlace();
        test.firstFromTheLeft();
        test.b.end("TextBoundsTest");
    }

    private void book(String text, int works) {
        PaintedOver x = new PaintedOver();
        b.due("book of " + text, Check.tell(x, text), works);
        b.due("fault() of " + text, x.fault(), 0);
        b.due("where() of " + text, x.where(), Bounds.NONE);
        b.due("trouble() of " + text, x.trouble(), 0);
    }

    private void fault(int kind, String ahead, String behind) {
        PaintedOver x = Check.wall("wall wide 5 high 1 keeps 5 parts 1");
        String text = ahead + behind;
        b.due("book of " + text, Check.tell(x, text), Bounds.NONE);
        b.due("trouble() of " + text, x.trouble(), 4);
        b.due("fault() of " + text, x.fault(), kind);
        b.due("where() of " + text, x.where(), ahead.length());
        b.due("the book stays, " + text, x.size(0) * 100 + x.size(2) * 10 + x.size(3), 551);
        b.due("the tape is empty, " + text, x.size(12), 0);
    }

    /** The same text with what is still taken, and with what is a fault at its place. */
    private void edge(String ahead, String taken, int kind, String wrong, String behind) {
        int works = (ahead + behind).split("work ", -1).length - 1;
        book(ahead + taken + behind, works);
        fault(kind, ahead, wrong + behind);
    }

    private void size(String text, int what, int due) {
        b.due("size(" + what + ") of " + text, Check.wall(text).size(what), due);
    }

    private static String times(int n, String line) {
        return line.repeat(n);
    }

    /** 1 .. 6, 1 .. 4, 0 up to wide times high, 0 .. 9. */
    private void wall() {
        edge("wall wide ", "1", 4, "0", " high 1 keeps 0 parts 0");
        edge("wall wide ", "6", 4, "7", " high 1 keeps 0 parts 0");
        edge("wall wide ", "006", 4, "007", " high 1 keeps 0 parts 0");
        edge("wall wide 1 high ", "1", 4, "0", " keeps 0 parts 0");
        edge("wall wide 1 high ", "4", 4, "5", " keeps 0 parts 0");
        edge("wall wide 2 high 1 keeps ", "2", 4, "3", " parts 0");
        edge("wall wide 2 high 1 keeps ", "0", 4, "999", " parts 0");
        edge("wall wide 1 high 1 keeps 1 parts ", "9", 4, "10", "");
        book("wall wide 1 high 1 keeps 0 parts 0", 0);
        fault(1, "wall wide 1 high 1 keeps ", "-1 parts 0");
        fault(1, "wall wide 1 high 1 keeps 0 parts ", "-1");
        size("wall wide 6 high 4 keeps 24 parts 9", 0, 6);
        size("wall wide 6 high 4 keeps 24 parts 9", 1, 4);
        size("wall wide 6 high 4 keeps 24 parts 9", 2, 24);
        size("wall wide 6 high 4 keeps 24 parts 9", 3, 9);
    }

    private void keepsOfEveryWall() {
        for (int wide = 1; wide <= 6; wide++) {
            for (int high = 1; high <= 4; high++) {
                int cells = wide * high;
                edge("wall wide " + wide + " high " + high + " keeps ", "" + cells, 4, "" + (cells + 1), " parts 0");
            }
        }
    }

    /** 0 .. 9, 0 .. 999 each: what is more has four digits and is no TOKEN. */
    private void colour() {
        edge(WALL + "colour c thick ", "0", 1, ";", " fades 0 since 0");
        edge(WALL + "colour c thick ", "9", 4, "10", " fades 0 since 0");
        edge(WALL + "colour c thick 0 fades ", "0", 1, "-1", " since 0");
        edge(WALL + "colour c thick 0 fades ", "999", 1, "1000", " since 0");
        edge(WALL + "colour c thick 0 fades 0 since ", "0", 1, "-1", "");
        edge(WALL + "colour c thick 0 fades 0 since ", "999", 1, "1000", "");
        PaintedOver x = Check.wall(Bounds.ONE_CELL + "colour c thick 9 fades 999 since 0;hand h;work h year 0 c " + BOX);
        b.due("thick 9", x.relief(0, 0), 9);
        b.due("fades 999, year 998", x.was(0, 0, 998), 0);
        b.due("fades 999, year 999", x.was(0, 0, 999), -2);
    }

    /** 0 .. 999, not below that of the work ahead. */
    private void work() {
        edge(ALL + "work h year ", "0", 1, "-1", " c " + BOX);
        edge(ALL + "work h year ", "999", 1, "1000", " c " + BOX);
        String work = ALL + "work h year 7 c " + BOX + ";work h year ";
        edge(work, "7", 4, "6", " c " + BOX);
        edge(work, "999", 4, "0", " c " + BOX);
        edge(work + "9 c " + BOX + ";contract " + BOX + " from 0 until 0;work h year ", "9", 4, "8", " c " + BOX);
        b.due("year 999", Check.wall(ALL + "work h year 999 c " + BOX).work(0, 1), 999);
        b.due("year 0", Check.wall(ALL + "work h year 0 c " + BOX).work(0, 1), 0);
    }

    /** Its corners on the wall, the lower right one neither left of nor above the upper left one. */
    private void patch() {
        String[] lines = {"work h year 0 c ", "want c "};
        for (String line : lines) {
            corners(ALL + line, "");
            corners(ALL + line + BOX + ",c ", "");
        }
    }

    private void corners(String ahead, String behind) {
        edge(ahead, "0", 1, "-1", ",0 to 2,1" + behind);
        edge(ahead, "2", 4, "3", ",0 to 2,1" + behind);
        edge(ahead + "0,", "0", 1, "-1", " to 2,1" + behind);
        edge(ahead + "0,", "1", 4, "2", " to 2,1" + behind);
        edge(ahead + "1,0 to ", "1", 4, "0", ",1" + behind);
        edge(ahead + "1,0 to ", "2", 4, "3", ",1" + behind);
        edge(ahead + "2,1 to ", "2", 4, "1", ",1" + behind);
        edge(ahead + "0,1 to 0,", "1", 4, "0", behind);
        edge(ahead + "0,0 to 0,", "0", 1, "-1", behind);
        edge(ahead + "0,0 to 0,", "1", 4, "2", behind);
    }

    /** Cells as of a PATCH; years 0 .. 999, the latter not below the former. */
    private void contract() {
        corners(ALL + "contract ", " from 0 until 0");
        edge(ALL + "contract " + BOX + " from ", "0", 1, "-1", " until 999");
        edge(ALL + "contract " + BOX + " from ", "999", 1, "1000", " until 999");
        edge(ALL + "contract " + BOX + " from 5 until ", "5", 4, "4", "");
        edge(ALL + "contract " + BOX + " from 5 until ", "999", 1, "1000", "");
        edge(ALL + "contract " + BOX + " from 999 until ", "999", 4, "998", "");
        edge(ALL + "contract " + BOX + " from 0 until ", "0", 1, "-1", "");
    }

    /** WORDS of 1 to 8 small letters that stand together; else the first of them begins no TOKEN. */
    private void lettersOfWords() {
        edge(WALL + "hand ", "a", 1, "A", "");
        edge(WALL + "hand ", "abcdefgh", 1, "abcdefghi", "");
        edge(WALL + "hand ", "zzzzzzzz", 1, "zzzzzzzzz", "");
        edge(WALL, "contract 0,0 to 0,0", 1, "contracts 0,0 to 0,0", " from 0 until 0");
        fault(1, WALL + "hand ", times(40, "x"));
        fault(1, WALL + "hand a", "Bc");
        fault(1, "", "walls wide 1");
        fault(1, "", "wal l wide 1");
        fault(1, "wall ", "wides 1");
        book(WALL + "hand abcdefgh,abcdefgi,abcdefg,bcdefgh", 0);
        fault(1, WALL + "hand a ", "b");
        fault(1, WALL + "hand a", "{");
        fault(1, WALL + "hand a", "`");
    }

    /** WHOLES of 1 to 3 digits that stand together. */
    private void digitsOfWholes() {
        edge("wall wide ", "1", 1, "0001", " high 1 keeps 0 parts 0");
        edge("wall wide ", "001", 1, "00001", " high 1 keeps 0 parts 0");
        edge(WALL + "colour c thick 1 fades 1 since ", "999", 1, "9990", "");
        fault(1, "wall wide 1", "/");
        fault(1, "wall wide 1", ":");
        fault(1, "wall wide 1 ", "1 high 1 keeps 0 parts 0");
        fault(1, "wall wide 1", ".0 high 1 keeps 0 parts 0");
        b.due("012 is twelve", Check.wall(ALL + "work h year 012 c " + BOX).work(0, 1), 12);
    }

    /** Blanks part TOKENS and mean nothing else. */
    private void blanks() {
        book("wall wide3high2keeps1parts0;colour c thick1fades0since0;hand h;work h year5c 0,0to 1,1,c 2,0to 2,1", 1);
        book("   wall  wide  3  high  2  keeps  1  parts  0  ;  hand  a  ,  b  ", 0);
        fault(1, "", "wallwide 3");
        fault(1, "wall wide 3 ", "highs2");
        fault(1, "wall wide 3", "\nhigh 2");
        fault(1, "wall wide 3", "\u0000high 2");
        fault(1, "wall wide 3 ", "h igh 2");
        fault(4, "wall wide 3 high 2 keeps 1 parts ", "10");
        fault(1, "wall wide 3 high 2 keeps 1 parts 1 ", "0");
    }

    /** LINE {; LINE}. */
    private void semicolons() {
        book("wall wide 1 high 1 keeps 0 parts 0", 0);
        fault(1, "wall wide 1 high 1 keeps 0 parts 0;", "");
        fault(1, "wall wide 1 high 1 keeps 0 parts 0;  ", "");
        fault(1, "wall wide 1 high 1 keeps 0 parts 0;", ";hand h");
        fault(1, "", ";wall wide 1 high 1 keeps 0 parts 0");
        fault(1, "", ",wall wide 1 high 1 keeps 0 parts 0");
        fault(1, "wall wide 1 high 1 keeps 0 parts 0 ", "hand h");
        fault(1, "wall wide 1 high 1 keeps 0 parts 0", ",hand h");
        fault(1, "", "thick 3");
        fault(1, "", "7");
    }

    private void keptWordsAreNoNames() {
        for (String word : KEPT_WORDS) {
            fault(1, WALL + "colour ", word + " thick 1 fades 0 since 0");
            fault(1, WALL + "hand ", word);
            fault(1, WALL + "hand a,", word);
            fault(1, ALL + "work ", word + " year 0 c " + BOX);
            fault(1, ALL + "work h year 0 ", word + " " + BOX);
            fault(1, ALL + "work h year 0 c " + BOX + ",", word + " " + BOX);
            fault(1, ALL + "want ", word + " " + BOX);
        }
    }

    private void otherWordsAreNames() {
        String[] words = {"wide", "high", "keeps", "parts", "thick", "fades", "since", "year", "to", "from", "until"};
        for (String word : words) {
            book(WALL + HAND + "colour " + word + " thick 1 fades 0 since 0;work h year 0 " + word + " " + BOX, 1);
            book(WALL + COLOUR + "hand " + word + ";work " + word + " year 0 c " + BOX, 1);
        }
    }

    /** NAMES: each told once. */
    private void toldOnce() {
        edge(WALL + "hand a,", "b", 3, "a", "");
        edge(WALL + "hand a;hand ", "aa", 3, "a", "");
        edge(WALL + COLOUR + "colour ", "d", 3, "c", " thick 1 fades 0 since 0");
        edge(WALL + COLOUR + "hand ", "d", 3, "c", "");
        edge(WALL + "hand c,d;colour ", "e", 3, "d", " thick 1 fades 0 since 0");
        edge(WALL + "hand abcdefgh,", "abcdefgi", 3, "abcdefgh", "");
        edge(WALL + "hand abcdefgh,", "bbcdefgh", 3, "abcdefgh", "");
        fault(3, "hand a,", "a," + times(9, "b,"));
    }

    /** NAMES: each ahead of its use. */
    private void aheadOfUse() {
        book(WALL + COLOUR + HAND + "work h year 0 c " + BOX, 1);
        fault(2, WALL + COLOUR + "work ", "h year 0 c " + BOX + ";hand h");
        fault(2, WALL + HAND + "work h year 0 ", "c " + BOX + ";" + COLOUR + "hand i");
        book(WALL + COLOUR + "want c " + BOX, 0);
        fault(2, WALL + "want ", "c " + BOX + ";colour c thick 1 fades 0 since 0");
        book(COLOUR + HAND + WALL + "work h year 0 c " + BOX, 1);
        fault(2, ALL + "work h year 0 c " + BOX + ",", "d " + BOX);
        fault(2, ALL + "want c " + BOX + ",", "d " + BOX);
        fault(2, ALL + "work ", "hh year 0 c " + BOX);
    }

    private void ofAnotherSort() {
        fault(2, ALL + "work ", "c year 0 c " + BOX);
        fault(2, ALL + "work h year 0 ", "h " + BOX);
        fault(2, ALL + "work h year 0 c " + BOX + ",", "h " + BOX);
        fault(2, ALL + "want ", "h " + BOX);
    }

    private static String colours(int n) {
        StringBuilder s = new StringBuilder();
        for (int i = 0; i < n; i++) {
            s.append("colour ").append((char) ('p' + i)).append(" thick 1 fades 0 since 0;");
        }
        return s.toString();
    }

    /** MANY: a LINE more of its sort than there is room for, at its first WORD. */
    private void fiveColours() {
        book(WALL + colours(4) + "colour z thick 1 fades 0 since 0", 0);
        fault(5, WALL + colours(5), "colour z thick 1 fades 0 since 0");
        fault(5, WALL + colours(5), "colour");
        fault(5, WALL + colours(5), "colour p");
        size(WALL + colours(5) + "hand h", 4, 5);
        b.due("area of the fifth", Check.wall(WALL + colours(5) + "hand h;work h year 0 t 0,0 to 1,0").area(4), 2);
    }

    /** Up to 5 in all; a hand more: at its NAME. */
    private void fiveHands() {
        book(WALL + "hand a,b,c,d,e", 0);
        fault(5, WALL + "hand a,b,c,d,e,", "f");
        book(WALL + "hand a;hand b;hand c,d;hand e", 0);
        fault(5, WALL + "hand a;hand b;hand c,d;hand e;hand ", "f");
        fault(5, WALL + "hand a;hand b;hand c,d;hand e,", "f,g");
        size(WALL + "hand a;hand b,c,d,e", 5, 5);
        b.due("share of the fifth", Check.wall(ALL + "hand a,b,d,e;work e year 0 c 0,0 to 1,0").share(4), 2);
    }

    /** Up to 4 PATCHES; a PATCH more: at its NAME. */
    private void fourPatches() {
        String[] lines = {"work h year 0 ", "want "};
        for (String line : lines) {
            book(ALL + line + times(3, "c 0,0 to 0,0,") + "c 2,1 to 2,1", line.startsWith("work") ? 1 : 0);
            fault(5, ALL + line + times(4, "c 0,0 to 0,0,"), "c 2,1 to 2,1");
            fault(1, ALL + line + times(4, "c 0,0 to 0,0,"), "");
        }
        PaintedOver x = Check.wall(ALL + "work h year 0 " + times(3, "c 0,0 to 0,0,") + "c 2,1 to 2,1;want "
            + times(3, "c 0,0 to 0,0,") + "c 2,0 to 2,0");
        b.due("the fourth patch of a work", x.shows(2, 1), 0);
        b.due("the fourth patch of want", x.wanted(2, 0), 0);
    }

    private void nineWorks() {
        String work = "work h year 0 c " + BOX;
        book(ALL + times(8, work + ";") + work, 9);
        fault(5, ALL + times(9, work + ";"), work);
        fault(5, ALL + times(9, work + ";"), "work");
    }

    private void fourContracts() {
        String contract = "contract " + BOX + " from 0 until 0";
        book(ALL + times(3, contract + ";") + contract, 0);
        size(ALL + times(3, contract + ";") + contract, 7, 4);
        fault(5, ALL + times(4, contract + ";"), contract);
        fault(5, ALL + times(4, contract + ";"), "contract");
    }

    /** A second wall, want; at that WORD. */
    private void oneWall() {
        book("wall wide 1 high 1 keeps 0 parts 0", 0);
        fault(3, "wall wide 1 high 1 keeps 0 parts 0;", "wall wide 1 high 1 keeps 0 parts 0");
        fault(3, "wall wide 1 high 1 keeps 0 parts 0;hand h;", "wall");
        fault(1, "wall wide 1 high 1 keeps 0 parts 0 ", "wall");
    }

    private void oneWant() {
        book(ALL + "want c " + BOX, 0);
        fault(3, ALL + "want c " + BOX + ";", "want c " + BOX);
        fault(3, ALL + "want c " + BOX + ";hand i;", "want");
    }

    /** LACKS: work, contract, want ahead of the wall; at that WORD. */
    private void lacks() {
        String[] lines = {"work h year 0 c " + BOX, "contract " + BOX + " from 0 until 0", "want c " + BOX};
        for (String line : lines) {
            book(COLOUR + HAND + WALL + line, line.startsWith("work") ? 1 : 0);
            fault(6, COLOUR + HAND, line + ";wall wide 3 high 2 keeps 1 parts 0");
            fault(6, "", line);
            fault(6, HAND, line.substring(0, line.indexOf(' ')));
        }
        book(COLOUR + HAND + "wall wide 3 high 2 keeps 1 parts 0", 0);
    }

    private void noWallAtTheEnd() {
        fault(6, "hand h", "");
        fault(6, "hand h,i   ", "");
        fault(6, "colour c thick 1 fades 0 since 0", "");
        fault(6, HAND + "colour c thick 1 fades 0 since 0 ", "");
        fault(1, "hand h,", "");
        fault(1, "hand h;", "");
        fault(1, "", "");
        fault(1, " ", "");
    }

    private static final String[][] LINES = {
        {"", "wall", "wide", "3", "high", "2", "keeps", "1", "parts", "0"},
        {ALL, "colour", "d", "thick", "1", "fades", "2", "since", "3"},
        {ALL, "hand", "i", ",", "j"},
        {ALL, "work", "h", "year", "3", "c", "0", ",", "0", "to", "1", ",", "1", ",", "c", "0", ",", "0", "to", "1", ",", "1"},
        {ALL, "contract", "0", ",", "0", "to", "1", ",", "1", "from", "3", "until", "4"},
        {ALL, "want", "c", "0", ",", "0", "to", "1", ",", "1", ",", "c", "0", ",", "0", "to", "1", ",", "1"},
    };

    /** So many TOKENS of a LINE, each with a blank behind it. */
    private static String begun(String[] line, int tokens) {
        StringBuilder s = new StringBuilder(line[0]);
        for (int i = 1; i <= tokens; i++) {
            s.append(line[i]).append(' ');
        }
        return s.toString();
    }

    /** A LINE may end where it is whole: a hand behind one hand, work and want behind one PATCH. */
    private static boolean isWhole(String[] line, int tokens) {
        boolean allOfIt = tokens == line.length - 1;
        return allOfIt || line[1].equals("hand") && tokens == 2 || line[1].equals("work") && tokens == 12
            || line[1].equals("want") && tokens == 9;
    }

    /** FORM, a TOKEN with which no BOOK goes on (the end: its place). */
    private void endsWithinLines() {
        for (String[] line : LINES) {
            for (int tokens = 1; tokens < line.length; tokens++) {
                String text = begun(line, tokens);
                if (isWhole(line, tokens)) {
                    book(text, line[1].equals("work") ? 1 : 0);
                } else {
                    fault(1, text, "");
                }
            }
        }
    }

    private void wrongTokensWithinLines() {
        String[] wrong = {"A", "0000", "abcdefghi", "!"};
        for (String[] line : LINES) {
            for (int tokens = 1; tokens < line.length; tokens++) {
                for (String token : wrong) {
                    fault(1, begun(line, tokens), token);
                }
                if (!isWhole(line, tokens)) {
                    fault(1, begun(line, tokens), ";");
                }
            }
        }
    }

    /** FAULTS of one place: the least number. */
    private void leastOfOnePlace() {
        String four = ALL + "work h year 0 " + times(4, "c 0,0 to 0,0,");
        fault(1, four, "want");
        fault(2, four, "d 9,9");
        fault(2, four, "h 9,9");
        fault(5, four, "c 9,9");
        fault(1, "hand a,b,c,d,e,", "hand");
        fault(3, "hand a,b,c,d,e,", "c");
        fault(5, "hand a,b,c,d,e,", "x");
    }

    /** Of more places the first from the left, whatever its number. */
    private void firstFromTheLeft() {
        fault(6, "", "work A");
        fault(5, WALL + colours(5), "colour A");
        fault(4, "wall wide 3 high 2 keeps ", "7 parts A");
        fault(3, "hand a,", "a A");
        fault(2, WALL + "work ", "x A");
        fault(1, "wall wide ", "A high 9");
        fault(4, ALL + "work h year 0 c ", "3,0 to 0,9,d");
        fault(4, "wall wide ", "7 high 9");
    }
}
