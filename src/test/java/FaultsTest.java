/** Promises 3 to 5: what is a BOOK, and the first FAULT of what isn't one, at its place (^ marks it). */
public final class FaultsTest {
    private static final String WALL = "wall wide 2 high 1 keeps 1 parts 0;";
    private static final String COLOUR = "colour c thick 1 fades 0 since 0;";
    private static final String HAND = "hand h;";
    private static final String ALL = WALL + COLOUR + HAND;
    private static final String BOX = "0,0 to 0,0";

    private final Check check = new Check();

    public static void main(String[] args) {
        FaultsTest test = new FaultsTest();
        test.books();
        test.form();
        test.names();
        test.again();
        test.bounds();
        test.many();
        test.lacks();
        test.firstOfMore();
        test.check.end("FaultsTest");
    }

    private void fault(int due, String marked) {
        int place = marked.indexOf('^');
        String text = marked.replace("^", "");
        PaintedOver x = Check.wall("wall wide 1 high 1 keeps 1 parts 0");
        check.due("book of " + text, Check.tell(x, text), PaintedOver.NONE);
        check.due("trouble() of " + text, x.trouble(), 4);
        check.due("fault() of " + text, x.fault(), due);
        check.due("where() of " + text, x.where(), place);
    }

    private void book(String text, int works) {
        PaintedOver x = new PaintedOver();
        check.due("book of " + text, Check.tell(x, text), works);
        check.due("fault() of " + text, x.fault(), 0);
        check.due("where() of " + text, x.where(), PaintedOver.NONE);
    }

    private static String times(int n, String line) {
        StringBuilder s = new StringBuilder();
        for (int i = 0; i < n; i++) {
            s.append(line);
        }
        return s.toString();
    }

    private void books() {
        book("wall wide 1 high 1 keeps 0 parts 0", 0);
        book("wall wide 6 high 4 keeps 24 parts 9", 0);
        book("  wall   wide 006high4keeps024parts009   ", 0);
        book(ALL + "work h year 0 c " + BOX, 1);
        fault(1, ALL + "work h year 999 " + times(3, "c 0 , 0 to 1 , 0,") + "^");
        book(ALL + "work h year 999 " + times(3, "c 0 , 0 to 1 , 0,") + "c " + BOX, 1);
        book(ALL + "work h year 5 c 0,0 to 1,0,c 1,0 to 1,0;work h year 5 c " + BOX, 2);
        book(COLOUR + HAND + "wall wide 2 high 1 keeps 0 parts 0", 0);
        book("hand abcdefgh,thick,to;colour wide thick 9 fades 999 since 999;" + WALL + "want wide 0,0 to 1,0", 0);
        book("hand a;hand b;hand c;hand d;hand e;wall wide 1 high 1 keeps 0 parts 0", 0);
        book(ALL + times(4, "contract 0,0 to 1,0 from 3 until 3;") + "want c " + BOX, 0);
        book("colour a thick 0 fades 0 since 0;colour b thick 0 fades 0 since 0;colour d thick 0 fades 0 since 0;"
            + "colour e thick 0 fades 0 since 0;" + ALL + times(8, "work h year 7 c 0,0 to 0,0;") + "work h year 7 c " + BOX, 9);
    }

    private void form() {
        fault(1, "^");
        fault(1, "   ^");
        fault(1, "^;");
        fault(1, "wall wide^");
        fault(1, "wall wide 2  ^");
        fault(1, "^wal wide 2 high 1 keeps 1 parts 0");
        fault(1, "^Wall wide 2 high 1 keeps 1 parts 0");
        fault(1, "wall ^high 2 wide 1 keeps 1 parts 0");
        fault(1, "wall wide ^two");
        fault(1, "wall wide ^0002 high 1");
        fault(1, "wall wide 2 high 1 keeps 1 parts 0 ^, colour");
        fault(1, "wall wide 2 high 1 keeps 1 parts 0 ^colour");
        fault(1, "wall wide 2 high 1 keeps 1 parts 0;^");
        fault(1, "wall wide 2 high 1 keeps 1 parts 0;^;");
        fault(1, "wall wide 2^\thigh 1");
        fault(1, "wall wide 2 ^\u00e9high 1");
        fault(1, "colour ^abcdefghi thick 1");
        fault(1, "colour ^want thick 1");
        fault(1, "colour ^7 thick 1");
        fault(1, "colour c thick 1 fades 1 since 1 ^, colour");
        fault(1, "hand ^");
        fault(1, "hand a,^");
        fault(1, "hand a,^,b");
        fault(1, "hand a ^b");
        fault(1, "hand ^hand");
        fault(1, ALL + "work ^work");
        fault(1, ALL + "work ^3");
        fault(1, ALL + "work h ^c");
        fault(1, ALL + "work h year 3 ^;");
        fault(1, ALL + "work h year 3^");
        fault(1, ALL + "work h year 3 ^want");
        fault(1, ALL + "work h year 3 c 0 ^0");
        fault(1, ALL + "work h year 3 c 0,0 ^0,0");
        fault(1, ALL + "work h year 3 c 0,0 to 0,0,^");
        fault(1, ALL + "work h year 3 c 0,0 to 0,0 ^c");
        fault(1, ALL + "work h year 3 c 0,0 to 0,0,^0");
        fault(1, ALL + "contract ^c 0,0 to 0,0");
        fault(1, ALL + "contract 0,0 to 0,0 ^until 3");
        fault(1, ALL + "contract 0,0 to 0,0 from 3 ^to 4");
        fault(1, ALL + "want ^0,0 to 0,0");
        fault(1, ALL + "want c 0,0 to 0,0^.");
    }

    private void names() {
        fault(2, WALL + "work ^h");
        fault(2, ALL + "work ^c year 0 c " + BOX);
        fault(2, ALL + "work h year 0 ^h " + BOX);
        fault(2, ALL + "work h year 0 c " + BOX + ",^cc " + BOX);
        fault(2, ALL + "want ^h " + BOX);
        fault(2, WALL + "want ^c " + BOX + ";" + COLOUR);
    }

    private void again() {
        fault(3, "hand a,^a");
        fault(3, "hand a;colour ^a thick");
        fault(3, COLOUR + "colour ^c");
        fault(3, COLOUR + "hand ^c");
        fault(3, "hand a,b,c,d,e,^a");
        fault(3, WALL + "^wall wide 9");
        fault(3, ALL + "want c " + BOX + ";^want x");
    }

    private void bounds() {
        fault(4, "wall wide ^0");
        fault(4, "wall wide ^7");
        fault(4, "wall wide 6 high ^0");
        fault(4, "wall wide 6 high ^5");
        fault(4, "wall wide 6 high 4 keeps ^25");
        fault(4, "wall wide 6 high 4 keeps 24 parts ^10");
        fault(4, "colour c thick ^10");
        fault(4, ALL + "work h year 9 c " + BOX + ";work h year ^8 c");
        fault(4, ALL + "work h year 9 c ^2,0");
        fault(4, ALL + "work h year 9 c 0,^1");
        fault(4, ALL + "work h year 9 c 1,0 to ^0,0");
        fault(4, ALL + "work h year 9 c 1,0 to ^2,0");
        fault(4, ALL + "work h year 9 c 1,0 to 1,^1");
        fault(4, "wall wide 1 high 2 keeps 0 parts 0;" + COLOUR + "want c 0,1 to 0,^0");
        fault(4, ALL + "contract ^2,0 to 1,0");
        fault(4, ALL + "contract 1,0 to ^0,0");
        fault(4, ALL + "contract 0,0 to 0,0 from 7 until ^6");
    }

    private void many() {
        fault(5, "colour a thick 0 fades 0 since 0;colour b thick 0 fades 0 since 0;colour d thick 0 fades 0 since 0;"
            + "colour e thick 0 fades 0 since 0;" + COLOUR + "^colour");
        fault(5, "hand a,b,c,d,e,^f");
        fault(5, "hand a,b;hand c,d,e;hand ^f");
        fault(5, ALL + times(9, "work h year 1 c " + BOX + ";") + "^work");
        fault(5, ALL + "work h year 1 " + times(4, "c 0,0 to 0,0,") + "^c");
        fault(5, ALL + "want " + times(4, "c 0,0 to 0,0,") + "^c");
        fault(5, ALL + times(4, "contract 0,0 to 1,0 from 3 until 3;") + "^contract");
    }

    private void lacks() {
        fault(6, "^work");
        fault(6, COLOUR + HAND + "^work h");
        fault(6, "^contract 0,0 to 0,0");
        fault(6, COLOUR + "^want c");
        fault(6, "hand h^");
        fault(6, "hand h  ^");
    }

    /** Of faults at one place the least number, of places the first. */
    private void firstOfMore() {
        fault(1, ALL + "work h year 1 " + times(4, "c 0,0 to 0,0,") + "^7");
        fault(2, ALL + "work h year 1 " + times(4, "c 0,0 to 0,0,") + "^d");
        fault(1, "hand a,b,c,d,e,^wall");
        fault(1, "hand h;^;");
        fault(6, "^work;;A");
        fault(4, "wall wide ^9 A");
    }
}
