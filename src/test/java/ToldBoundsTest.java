/** Promises 47 to 49 at their bounds: bare cells, sizes, the trouble of the latest call that may be refused. */
public final class ToldBoundsTest {
    private static final String ROW = "wall wide 4 high 2 keeps 3 parts 2;colour c thick 0 fades 0 since 0;hand h;";

    private final Bounds b = new Bounds();

    public static void main(String[] args) {
        ToldBoundsTest test = new ToldBoundsTest();
        test.ledOfBareCells();
        test.ledOfNone();
        test.ledLeavesAll();
        test.ledFollowsActs();
        test.sizesOfNothing();
        test.sizes();
        test.sizesOfOthers();
        test.sizesOfActs();
        test.sizeOfTheTape();
        test.troubleOfANewObject();
        test.troubleStays();
        test.troubleOfTheLatest();
        test.the512thCall();
        test.b.end("ToldBoundsTest");
    }

    /** The i-th CELL, by numbers, that is bare. */
    private void ledOfBareCells() {
        PaintedOver x = Check.wall(ROW + "work h year 0 c 1,0 to 2,0,c 0,1 to 0,1");
        int[] bare = {0, 3, 5, 6, 7};
        for (int i = 0; i < bare.length; i++) {
            b.due("led(" + i + ")", Check.ledOrNone(x, i), bare[i]);
        }
        Bounds.Start start = Bounds.wall(ROW + "work h year 0 c 1,0 to 2,0,c 0,1 to 0,1");
        int[] none = {-1, 5, 6, 8, Integer.MIN_VALUE, Integer.MAX_VALUE};
        for (int i : none) {
            b.thrown("led(" + i + ")", start, y -> y.led(i));
        }
    }

    /** NoSuchElementException if there is none such. */
    private void ledOfNone() {
        b.thrown("led(0) without a book", PaintedOver::new, x -> x.led(0));
        b.thrown("led(0) of a painted wall", Bounds.wall(ROW + "work h year 0 c 0,0 to 3,1"), x -> x.led(0));
        b.thrown("led(-1) of a painted wall", Bounds.wall(ROW + "work h year 0 c 0,0 to 3,1"), x -> x.led(-1));
        b.thrown("led(24) of the widest wall", Bounds.wall("wall wide 6 high 4 keeps 0 parts 0"), x -> x.led(24));
        PaintedOver x = Check.wall("wall wide 6 high 4 keeps 0 parts 0");
        b.due("led(23) of the widest wall", Check.ledOrNone(x, 23), 23);
        b.due("led(0) of a bare wall", Check.ledOrNone(x, 0), 0);
    }

    private void ledLeavesAll() {
        b.unchanged("led", Bounds::busy, x -> Check.ledOrNone(x, 0));
        b.unchanged("led of none", Bounds::busy, x -> Check.ledOrNone(x, 9));
        b.thrown("led of none behind a fault", Bounds::busy, x -> x.led(2));
        PaintedOver x = Check.wall(ROW + "hand i");
        x.area(9);
        Check.ledOrNone(x, 0);
        b.due("trouble() behind led", x.trouble(), 1);
    }

    private void ledFollowsActs() {
        PaintedOver x = Check.wall(ROW + "work h year 1 c 0,0 to 3,0;work h year 2 c 0,0 to 0,0");
        b.due("led(0)", Check.ledOrNone(x, 0), 4);
        x.scrape(0, 0);
        b.due("led(0), one scraped", Check.ledOrNone(x, 0), 4);
        x.scrape(0, 0);
        b.due("led(0), two scraped", Check.ledOrNone(x, 0), 0);
        x.undo();
        b.due("led(0), one undone", Check.ledOrNone(x, 0), 4);
        x.thief(1);
        b.due("led(0) behind a thief of none", x.trouble(), 6);
        x.thief(0);
        b.due("led(3) behind a thief", Check.ledOrNone(x, 3), 3);
    }

    /** 0 for what there isn't. */
    private void sizesOfNothing() {
        for (int what = 0; what <= 12; what++) {
            b.due("new, size(" + what + ")", new PaintedOver().size(what), 0);
        }
        PaintedOver x = Check.wall("wall wide 1 high 1 keeps 0 parts 0");
        for (int what = 2; what <= 12; what++) {
            b.due("the least book, size(" + what + ")", x.size(what), 0);
        }
    }

    private void sizes() {
        PaintedOver x = Check.wall(ROW + "hand i,j;colour d thick 0 fades 0 since 0;colour e thick 0 fades 0 since 0;colour f thick 0 fades 0 since 0;"
            + "work h year 0 c 0,0 to 0,0;work h year 0 c 0,0 to 0,0;work h year 0 c 0,0 to 0,0;work h year 0 c 0,0 to 0,0;"
            + "work h year 0 c 0,0 to 0,0;contract 0,0 to 0,0 from 5 until 6;want c 0,0 to 3,1,d 0,0 to 0,0,e 0,0 to 3,0");
        int[] due = {4, 2, 3, 2, 4, 3, 5, 1, 8, 0, 0, 0, 0};
        for (int what = 0; what < due.length; what++) {
            b.due("size(" + what + ")", x.size(what), due[what]);
        }
    }

    /** NONE for others. */
    private void sizesOfOthers() {
        int[] none = {-1, 13, 14, Integer.MIN_VALUE, Integer.MAX_VALUE};
        for (int what : none) {
            b.due("size(" + what + ")", Bounds.busy().size(what), Bounds.NONE);
            b.due("new, size(" + what + ")", new PaintedOver().size(what), Bounds.NONE);
            b.unchanged("size(" + what + ")", Bounds::busy, x -> x.size(what));
        }
    }

    private void sizesOfActs() {
        PaintedOver x = Check.wall(ROW + "hand i");
        x.begin(0, 0);
        b.due("one is wet", x.size(9), 1);
        b.due("an act", x.size(10), 1);
        b.due("works now", x.size(6), 0);
        x.dry();
        b.due("none is wet", x.size(9), 0);
        b.due("acts", x.size(10), 2);
        b.due("works now", x.size(6), 1);
        x.image();
        b.due("images", x.size(11), 1);
        x.undo();
        b.due("one is wet again", x.size(9), 1);
        b.due("an act again", x.size(10), 1);
        b.due("works now", x.size(6), 0);
        x.back(0);
        b.due("works by the image", x.size(6), 1);
        b.due("acts by the image", x.size(10), 0);
        b.due("images still", x.size(11), 1);
    }

    private void sizeOfTheTape() {
        PaintedOver x = new PaintedOver();
        for (int i = 1; i <= 45; i++) {
            x.feed(0, 0, 0, 0, 0);
            b.due("bytes behind " + i, x.size(12), 20 * i);
        }
        x.feed(0, 0, 0, 0, 0);
        b.due("bytes behind a feed too many", x.size(12), 900);
        x.book(901);
        b.due("bytes behind a book refused by 2", x.size(12), 900);
        x.book(1);
        b.due("bytes behind a book refused by 4", x.size(12), 0);
    }

    private void troubleOfANewObject() {
        PaintedOver x = new PaintedOver();
        b.due("trouble()", x.trouble(), 0);
        b.due("trouble() again", x.trouble(), 0);
        x.undo();
        b.due("trouble() behind undo", x.trouble(), 6);
        b.due("trouble() stays when it is asked", x.trouble(), 6);
    }

    /** Calls of which no number is told leave it. */
    private void troubleStays() {
        PaintedOver x = Check.wall(ROW + "hand i");
        x.wet(0, 0);
        x.feed(0, 0, 0, 0, 0);
        b.due("behind feed", x.trouble(), 6);
        x.fault();
        b.due("behind fault", x.trouble(), 6);
        x.where();
        b.due("behind where", x.trouble(), 6);
        x.size(0);
        x.size(99);
        b.due("behind size", x.trouble(), 6);
        Check.ledOrNone(x, 0);
        Check.ledOrNone(x, 99);
        b.due("behind led", x.trouble(), 6);
        x.shows(0, 0);
        for (int i = 0; i < 45; i++) {
            x.feed(0, 0, 0, 0, 0);
        }
        Check.ledOrNone(x, 99);
        x.size(99);
        b.due("0 stays, too", x.trouble(), 0);
    }

    private void troubleOfTheLatest() {
        PaintedOver x = Check.wall(ROW + "work h year 1 c 0,0 to 0,0");
        x.shows(9, 9);
        b.due("1", x.trouble(), 1);
        x.was(0, 0, 1000);
        b.due("2", x.trouble(), 2);
        x.image();
        x.image();
        x.image();
        b.due("0", x.trouble(), 0);
        x.image();
        b.due("3", x.trouble(), 3);
        x.book(0);
        b.due("4", x.trouble(), 4);
        x.begin(0, 1);
        x.begin(0, 1);
        b.due("5", x.trouble(), 5);
        x.scrape(3, 1);
        b.due("6", x.trouble(), 6);
        x.orders();
        b.due("0 again", x.trouble(), 0);
    }

    /** An object is used for at most 512 calls: the last of them is answered as the first. */
    private void the512thCall() {
        PaintedOver x = new PaintedOver();
        String text = ROW + "want c 0,0 to 3,1;work h year 1 c 0,0 to 0,0";
        Check.tell(x, text);
        int calls = (text.length() + 19) / 20 + 1;
        x.begin(0, 1);
        for (calls++; calls < 510; calls++) {
            b.due("patch " + calls, x.patch(0, calls % 4, 0, calls % 4, 0) ? 1 : 0, 1);
        }
        b.due("call 511", x.need(1), 2);
        b.due("call 512", x.best(1, 0), 6);
    }
}
