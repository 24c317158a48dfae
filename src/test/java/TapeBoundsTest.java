/** Promises 1 to 5 at their bounds: a new object, the tape, what is a book of it, the fault and its place. */
public final class TapeBoundsTest {
    private static final int NONE = Bounds.NONE;
    private static final String SMALL = "wall wide 1 high 1 keeps 0 parts 0";

    private final Bounds b = new Bounds();

    public static void main(String[] args) {
        TapeBoundsTest test = new TapeBoundsTest();
        test.newObject();
        test.tapeOf900();
        test.highestByteFirst();
        test.bytesThatBeginTokens();
        test.bookOfTooMany();
        test.bookOfAll();
        test.bookOfNothing();
        test.firstBytesAlone();
        test.wholeTape();
        test.wholeTapeOfTokens();
        test.bookAnswersWorks();
        test.bookClearsActs();
        test.nothingOfFormerBooks();
        test.nothingOfFaultyBooks();
        test.faultLeavesTheBook();
        test.faultOfTheLatest();
        test.whereOfTheLatest();
        test.whereStays();
        test.b.end("TapeBoundsTest");
    }

    private static int feedBlanks(PaintedOver x) {
        return x.feed(0x20202020, 0x20202020, 0x20202020, 0x20202020, 0x20202020);
    }

    private static PaintedOver fed(int times) {
        PaintedOver x = new PaintedOver();
        for (int i = 0; i < times; i++) {
            feedBlanks(x);
        }
        return x;
    }

    /** Promise 1: no book. */
    private void newObject() {
        b.refused("new: shows", PaintedOver::new, x -> x.shows(0, 0), 1);
        b.refused("new: area", PaintedOver::new, x -> x.area(0), 1);
        b.refused("new: judged", PaintedOver::new, x -> x.judged(0), 1);
        b.refused("new: orders", PaintedOver::new, PaintedOver::orders, 1);
        b.refused("new: best", PaintedOver::new, x -> x.best(0, 0), 1);
        b.refused("new: freed", PaintedOver::new, x -> x.freed(0, 0), 1);
        b.refused("new: image", PaintedOver::new, PaintedOver::image, 1);
        b.refused("new: dry", PaintedOver::new, PaintedOver::dry, 6);
        b.denied("new: begin", PaintedOver::new, x -> x.begin(0, 0), 1);
        b.denied("new: patch", PaintedOver::new, x -> x.patch(0, 0, 0, 0, 0), 1);
        b.denied("new: back", PaintedOver::new, x -> x.back(0), 1);
        b.denied("new: undo", PaintedOver::new, PaintedOver::undo, 6);
    }

    /** THE TAPE has 900 bytes; NONE, and none comes, if there would be more. */
    private void tapeOf900() {
        b.due("the first feed", feedBlanks(new PaintedOver()), 20);
        b.due("feed to 900", feedBlanks(fed(44)), 900);
        PaintedOver x = fed(45);
        x.area(0);
        b.due("feed beyond 900", feedBlanks(x), NONE);
        b.due("feed beyond 900, size(12)", x.size(12), 900);
        b.due("feed beyond 900 isn't refused by a number", x.trouble(), 1);
        b.due("feed beyond 900 again", x.feed(0x41414141, 0, 0, 0, 0), NONE);
        b.unchanged("feed beyond 900", () -> fed(45), y -> y.feed(0x41414141, -1, -1, -1, -1));
        b.due("the book of 900 blanks", x.book(900), NONE);
        b.due("its place", x.where(), 900);
        b.due("the tape is empty again", feedBlanks(x), 20);
    }

    /** Of each number the highest first. */
    private void highestByteFirst() {
        for (int place = 0; place < 20; place++) {
            int[] n = {0x20202020, 0x20202020, 0x20202020, 0x20202020, 0x20202020};
            int shift = 24 - place % 4 * 8;
            n[place / 4] = n[place / 4] & ~(255 << shift) | 0xC1 << shift;
            PaintedOver x = new PaintedOver();
            x.feed(n[0], n[1], n[2], n[3], n[4]);
            x.book(20);
            b.due("the byte at " + place, x.where(), place);
        }
    }

    /** Blanks, 32; small letters; digits; ; and , - and nothing else. */
    private void bytesThatBeginTokens() {
        for (int one = 0; one < 256; one++) {
            PaintedOver x = new PaintedOver();
            int got = Check.tell(x, "hand h" + (char) one + ";" + SMALL);
            boolean blankOrLetter = one == ' ' || one >= 'a' && one <= 'z';
            boolean takenAsToken = one == ',' || one == ';';
            b.due("byte " + one, got, blankOrLetter ? 0 : NONE);
            b.due("byte " + one + ", fault()", x.fault(), blankOrLetter ? 0 : 1);
            b.due("byte " + one + ", where()", x.where(), blankOrLetter ? NONE : takenAsToken ? 7 : 6);
        }
    }

    /** NONE: 2 (THE TAPE stays). */
    private void bookOfTooMany() {
        int[] wrong = {-1, 41, 900, 901, Integer.MIN_VALUE, Integer.MAX_VALUE};
        for (int n : wrong) {
            b.refused("book(" + n + ") of 40", Bounds::busy, x -> x.book(n), 2);
        }
        b.refused("book(1) of an empty tape", PaintedOver::new, x -> x.book(1), 2);
        b.refused("book(901) of 900", () -> fed(45), x -> x.book(901), 2);
    }

    private void bookOfAll() {
        String text = SMALL + ";hand h";
        Bounds.Start start = () -> {
            PaintedOver x = new PaintedOver();
            Check.feedText(x, text);
            return x;
        };
        b.due("bytes", start.make().size(12), 60);
        b.taken("book(60) of 60", start, x -> x.book(60), 0);
        b.refused("book(61) of 60", start, x -> x.book(61), 2);
        PaintedOver x = start.make();
        x.book(41);
        b.due("the tape is empty behind a book, all bytes of it", x.size(12), 0);
        b.due("nothing is left to tell", x.book(1), NONE);
        b.due("nothing is left to tell, trouble()", x.trouble(), 2);
    }

    /** The first 0 bytes are no book: the end, at 0, is a token with which none goes on. */
    private void bookOfNothing() {
        PaintedOver x = Bounds.busy();
        b.due("book(0)", x.book(0), NONE);
        b.due("book(0), trouble()", x.trouble(), 4);
        b.due("book(0), fault()", x.fault(), 1);
        b.due("book(0), where()", x.where(), 0);
        b.due("book(0), the tape is empty", x.size(12), 0);
        b.due("book(0) of an empty tape", x.book(0), NONE);
        b.due("book(0) of an empty tape, trouble()", x.trouble(), 4);
    }

    private void firstBytesAlone() {
        int[] parts = {NONE, 1, 1, NONE};
        int[] places = {33, NONE, NONE, 35};
        for (int i = 0; i < 4; i++) {
            PaintedOver x = new PaintedOver();
            Check.feedText(x, "wall wide 1 high 1 keeps 0 parts 1 A");
            x.book(33 + i);
            b.due("parts by the first " + (33 + i), x.fault() == 0 ? x.size(3) : NONE, parts[i]);
            b.due("where() by the first " + (33 + i), x.where(), places[i]);
        }
    }

    /** A text of 900 bytes, the last of which tells. */
    private void wholeTape() {
        StringBuilder text = new StringBuilder("wall wide 1 high 1 keeps 0 parts ");
        while (text.length() < 899) {
            text.append(' ');
        }
        text.append('7');
        PaintedOver x = new PaintedOver();
        Check.feedText(x, text.toString());
        b.due("book(900)", x.book(900), 0);
        b.due("its last byte", x.size(3), 7);
        Check.feedText(x, text.toString());
        b.due("book(899)", x.book(899), NONE);
        b.due("book(899), its end", x.where(), 899);
    }

    /** 900 bytes, each of them a TOKEN of its own: the most that a text can have. */
    private void wholeTapeOfTokens() {
        String[] pairs = {";;", ",,", "a1", "1a", ",;"};
        for (String pair : pairs) {
            PaintedOver x = new PaintedOver();
            b.due("900 tokens " + pair, Check.tell(x, pair.repeat(450)), NONE);
            b.due("900 tokens " + pair + ", fault()", x.fault(), 1);
            b.due("900 tokens " + pair + ", where()", x.where(), 0);
            Check.feedText(x, SMALL + ";hand" + pair.repeat(430));
            b.due("tokens behind a line " + pair, x.book(899), NONE);
            b.due("tokens behind a line " + pair + ", fault()", x.fault(), 1);
        }
    }

    /** How many WORKS: none, up to 9. */
    private void bookAnswersWorks() {
        StringBuilder text = new StringBuilder(SMALL + ";" + Bounds.COLOUR + "hand h");
        for (int works = 0; works <= 9; works++) {
            PaintedOver x = new PaintedOver();
            b.due("works of a book", Check.tell(x, text.toString()), works);
            b.due("works of a book, size(6)", x.size(6), works);
            text.append(";work h year 5 c 0,0 to 0,0");
        }
    }

    /** Nothing wet, nothing to undo, no IMAGES. */
    private void bookClearsActs() {
        PaintedOver x = Bounds.busy();
        b.due("book", x.book(34), 0);
        b.due("nothing wet", x.size(9), 0);
        b.due("nothing to undo", x.size(10), 0);
        b.due("undo()", x.undo() ? 1 : 0, 0);
        b.due("no images", x.size(11), 0);
        b.due("back(0)", x.back(0) ? 1 : 0, 0);
        b.due("no works", x.size(6), 0);
        b.due("no hands", x.size(5), 0);
        b.due("the next image is the first", x.image(), 0);
    }

    private static String seen(PaintedOver x) {
        return Bounds.all(x) + " " + x.need(30) + " " + x.reach(30) + " " + x.step(41, 0);
    }

    /** The BOOK from now on: of those ahead of it nothing is left, told again or not. */
    private void nothingOfFormerBooks() {
        PaintedOver x = new PaintedOver();
        for (int turn = 0; turn < 5; turn++) {
            b.due("the book again", Check.tell(x, Bounds.WALL), 2);
            b.same("it is as a new one", seen(x), seen(Check.wall(Bounds.WALL)));
            x.begin(0, 30);
            x.patch(1, 0, 0, 2, 1);
            x.image();
            x.thief(0);
            b.due("another book", Check.tell(x, turn % 2 == 0 ? SMALL : "wall wide 6 high 4 keeps 24 parts 9;" + Bounds.COLOUR + "hand i,j,k,l,m"), 0);
            b.due("another book, wet", x.size(9), 0);
            b.due("another book, wanted", x.size(8), 0);
            b.due("another book, contracts", x.size(7), 0);
            x.begin(4, 0);
            x.patch(0, 0, 0, 5, 3);
        }
    }

    private void nothingOfFaultyBooks() {
        PaintedOver x = new PaintedOver();
        for (int turn = 0; turn < 3; turn++) {
            b.due("faulty at its end", Check.tell(x, Bounds.WALL + ";"), NONE);
            b.due("its end", x.where(), Bounds.WALL.length() + 1);
            b.due("faulty in its midst", Check.tell(x, Bounds.WALL.replace("until 40", "until 4")), NONE);
            b.due("the book", Check.tell(x, Bounds.WALL), 2);
            b.same("it is as a new one", seen(x), seen(Check.wall(Bounds.WALL)));
        }
    }

    /** NONE: 4 (the BOOK stays). */
    private void faultLeavesTheBook() {
        Bounds.Start start = () -> {
            PaintedOver x = Bounds.busy();
            x.book(0);
            return x;
        };
        PaintedOver told = start.make();
        b.due("a faulty book", Check.tell(told, "wall wide 1 high 1 keeps 0 parts 0;colour a thick 1 fades 1 since 1;work"), NONE);
        b.due("a faulty book, the tape", told.size(12), 0);
        b.same("a faulty book leaves what stands", Bounds.all(told), Bounds.all(start.make()));
        PaintedOver undone = start.make();
        Check.tell(undone, "wall wide 6 high 4 keeps 0 parts 0;hand h;work h year 3 x");
        undone.undo();
        PaintedOver other = start.make();
        other.undo();
        b.same("a faulty book leaves what is undone", Bounds.all(undone), Bounds.all(other));
        PaintedOver gone = start.make();
        Check.tell(gone, "wall wide 0");
        gone.back(1);
        other = start.make();
        other.back(1);
        b.same("a faulty book leaves images", Bounds.all(gone), Bounds.all(other));
    }

    /** The FAULT of the latest book() not refused by 2; 0 without one. */
    private void faultOfTheLatest() {
        PaintedOver x = new PaintedOver();
        b.due("fault() of no book", x.fault(), 0);
        x.book(1);
        b.due("fault() behind a book refused by 2 alone", x.fault(), 0);
        Check.tell(x, "hand a,a");
        b.due("fault() told again", x.fault(), 3);
        x.book(1);
        b.due("fault() behind one refused by 2", x.fault(), 3);
        Check.tell(x, "work");
        b.due("fault() lacks", x.fault(), 6);
        Check.tell(x, SMALL);
        b.due("fault() of a book", x.fault(), 0);
        x.book(-1);
        b.due("fault() of a book, behind one refused by 2", x.fault(), 0);
        Check.tell(x, "x");
        x.shows(0, 0);
        b.due("fault() behind another call", x.fault(), 1);
    }

    /** Its place, if the latest call that may be refused was by 4; NONE else. */
    private void whereOfTheLatest() {
        Bounds.Start faulty = () -> {
            PaintedOver x = Check.wall(Bounds.WALL);
            Check.tell(x, "hand x,x");
            return x;
        };
        b.due("where()", faulty.make().where(), 7);
        Bounds.Call[] calls = {
            x -> x.book(1), x -> x.shows(0, 0), x -> x.whose(0, 0), x -> x.was(0, 0, 0), x -> x.scraped(0, 0, 0), x -> x.deep(0, 0),
            x -> x.relief(0, 0), x -> x.light(0, 0), x -> x.area(0), x -> x.share(0), x -> x.old(0), x -> x.changes(0, 0),
            x -> x.work(0, 0), x -> x.paint(0, 0, 0), x -> x.judged(0), x -> x.breaks(0), x -> x.forged(), x -> x.left(0),
            x -> x.before(0, 1), x -> x.untold(), x -> x.orders(), x -> x.placed(0, true), x -> x.ahead(0, 1), x -> x.wanted(0, 0),
            x -> x.alike(), x -> x.best(0, 0), x -> x.need(0), x -> x.step(0, 0), x -> x.reach(0), x -> x.least(0, 0),
            x -> x.freed(0, 0), x -> x.begin(0, 25) ? 1 : 0, x -> x.patch(0, 0, 0, 0, 0) ? 1 : 0, x -> x.dry(), x -> x.wipe() ? 1 : 0,
            x -> x.wet(0, 0), x -> x.wetJudged(), x -> x.scrape(0, 0) ? 1 : 0, x -> x.thief(0), x -> x.undo() ? 1 : 0,
            x -> x.image(), x -> x.back(0) ? 1 : 0,
        };
        for (int i = 0; i < calls.length; i++) {
            PaintedOver x = faulty.make();
            calls[i].on(x);
            b.due("where() behind call " + i, x.where(), NONE);
            b.due("fault() behind call " + i, x.fault(), 3);
        }
    }

    /** Calls of which no number is told may not be refused. */
    private void whereStays() {
        PaintedOver x = new PaintedOver();
        Check.tell(x, "hand x,x");
        feedBlanks(x);
        b.due("where() behind feed", x.where(), 7);
        x.fault();
        b.due("where() behind fault", x.where(), 7);
        b.due("where() behind where", x.where(), 7);
        Check.ledOrNone(x, 0);
        b.due("where() behind led", x.where(), 7);
        x.size(99);
        b.due("where() behind size", x.where(), 7);
        b.due("trouble()", x.trouble(), 4);
        b.due("where() behind trouble", x.where(), 7);
        for (int i = 0; i < 45; i++) {
            feedBlanks(x);
        }
        b.due("where() behind a feed too many", x.where(), 7);
    }
}
