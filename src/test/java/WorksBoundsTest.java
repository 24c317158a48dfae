/** Promises 17 to 27 at their bounds: works, how they are judged and where they break, who was before whom. */
public final class WorksBoundsTest {
    private static final int BARE = Bounds.BARE;
    private static final String CLEAR = "colour c thick 1 fades 0 since 0;colour n thick 1 fades 0 since 20;hand h;";
    private static final String ROW = "wall wide 5 high 1 keeps 0 parts 0;" + CLEAR;
    private static final int[] NO_WORK = {-1, 2, 12, 31, 32, Integer.MIN_VALUE, Integer.MAX_VALUE};

    private final Bounds b = new Bounds();

    public static void main(String[] args) {
        WorksBoundsTest test = new WorksBoundsTest();
        test.numbersOfWorks();
        test.pairsOfWorks();
        test.whatOfAWork();
        test.wetHasNoNumber();
        test.numbersAsTheyAreDried();
        test.paintNowhere();
        test.keptJustEnough();
        test.keptAllOrNothing();
        test.partsJustEnough();
        test.partsOfNothing();
        test.nineParts();
        test.hangTogetherBySides();
        test.contractYears();
        test.contractCells();
        test.cameUp();
        test.firstOfTheLaw();
        test.judgedAsNow();
        test.forged();
        test.leftOfCovered();
        test.beforeByOneCell();
        test.beforeByOneBetween();
        test.untold();
        test.orders();
        test.placed();
        test.ahead();
        test.noBook();
        test.b.end("WorksBoundsTest");
    }

    private void one(String name, Bounds.Call first, int ofFirst, Bounds.Call last, int ofLast) {
        b.asked(name + " of the first", Bounds::busy, first, ofFirst);
        b.asked(name + " of the last", Bounds::busy, last, ofLast);
    }

    private interface Of {
        long on(PaintedOver x, int w);
    }

    /** WORKS have numbers, from 0: NONE, 1 for others. */
    private void numbers(String name, Of call, int ofFirst, int ofLast) {
        one(name, x -> call.on(x, 0), ofFirst, x -> call.on(x, 1), ofLast);
        for (int w : NO_WORK) {
            b.refused(name + " of " + w, Bounds::busy, x -> call.on(x, w), 1);
        }
        b.refused(name + " without a book", PaintedOver::new, x -> call.on(x, 0), 1);
        b.refused(name + " without works", Bounds.wall(ROW + "hand i"), x -> call.on(x, 0), 1);
    }

    private void numbersOfWorks() {
        numbers("work", (x, w) -> x.work(w, 1), 10, 25);
        numbers("paint", (x, w) -> x.paint(w, 1, 0), 0, 1);
        numbers("judged", PaintedOver::judged, 0, 0);
        numbers("breaks", PaintedOver::breaks, BARE, BARE);
        numbers("left", PaintedOver::left, 2, 2);
        numbers("placed", (x, w) -> x.placed(w, false), 0, 1);
        numbers("placed latest", (x, w) -> x.placed(w, true), 0, 1);
        numbers("least", (x, w) -> x.least(w, 30), 1, 0);
    }

    /** NONE: 1 (unlike). */
    private void pairsOfWorks() {
        one("before", x -> x.before(0, 1), 1, x -> x.before(1, 0), 0);
        one("ahead", x -> x.ahead(0, 1), 1, x -> x.ahead(1, 0), 0);
        for (int w : NO_WORK) {
            b.refused("before of " + w, Bounds::busy, x -> x.before(w, 0), 1);
            b.refused("before other " + w, Bounds::busy, x -> x.before(0, w), 1);
            b.refused("before of both " + w, Bounds::busy, x -> x.before(w, w), 1);
            b.refused("ahead of " + w, Bounds::busy, x -> x.ahead(w, 0), 1);
            b.refused("ahead other " + w, Bounds::busy, x -> x.ahead(0, w), 1);
            b.refused("ahead of both " + w, Bounds::busy, x -> x.ahead(w, w), 1);
        }
        for (int w = 0; w < 2; w++) {
            int same = w;
            b.refused("before itself " + w, Bounds::busy, x -> x.before(same, same), 1);
            b.refused("ahead of itself " + w, Bounds::busy, x -> x.ahead(same, same), 1);
        }
    }

    private void whatOfAWork() {
        int[] told = {1, 25, 2, 4, 1};
        int[] none = {-1, 5, Integer.MIN_VALUE, Integer.MAX_VALUE};
        for (int i = 0; i < told.length; i++) {
            int what = i;
            b.asked("what " + what, Bounds::busy, x -> x.work(1, what), told[what]);
        }
        for (int what : none) {
            b.refused("what " + what, Bounds::busy, x -> x.work(1, what), 1);
            b.refused("what " + what + " of none", Bounds::busy, x -> x.work(2, what), 1);
        }
    }

    /** Wet: it has no number yet. */
    private void wetHasNoNumber() {
        PaintedOver x = Bounds.busy();
        b.due("works beside a wet one", x.size(6), 2);
        b.due("judged of the wet one", x.judged(2), Bounds.NONE);
        x.wipe();
        x.begin(0, 50);
        x.patch(0, 0, 0, 2, 0);
        b.due("before with the wet one", x.before(1, 2), Bounds.NONE);
        b.due("orders beside the wet one", x.orders(), 1);
        b.due("untold beside the wet one", x.untold(), 0);
        b.due("left beside the wet one", x.left(0), 2);
        b.due("dry", x.dry(), 2);
        b.due("judged of the dry one", x.judged(2), 0);
        b.due("before with the dry one", x.before(1, 2), 1);
        b.due("left beside the dry one", x.left(0), 1);
        b.due("forged of none", x.forged(), BARE);
    }

    /** Works have numbers, by LINES, then as they are dried. */
    private void numbersAsTheyAreDried() {
        PaintedOver x = Check.wall(ROW + "hand i;work h year 4 c 0,0 to 0,0;work i year 4 c 1,0 to 1,0");
        x.begin(1, 4);
        x.wipe();
        x.begin(0, 5);
        b.due("the first dried", x.dry(), 2);
        x.begin(1, 6);
        b.due("the second dried", x.dry(), 3);
        int[] years = {4, 4, 5, 6};
        int[] hands = {0, 1, 0, 1};
        for (int w = 0; w < 4; w++) {
            b.due("year of " + w, x.work(w, 1), years[w]);
            b.due("hand of " + w, x.work(w, 0), hands[w]);
        }
        x.undo();
        x.wipe();
        x.begin(0, 7);
        b.due("dried in its stead", x.dry(), 3);
        b.due("its year", x.work(3, 1), 7);
    }

    private void paintNowhere() {
        b.refused("paint at -1,0", Bounds::busy, x -> x.paint(1, -1, 0), 1);
        b.refused("paint at 3,0", Bounds::busy, x -> x.paint(1, 3, 0), 1);
        b.refused("paint at 0,2", Bounds::busy, x -> x.paint(1, 0, 2), 1);
        b.refused("paint of none, nowhere", Bounds::busy, x -> x.paint(2, 3, 0), 1);
        b.asked("no paint", Bounds::busy, x -> x.paint(1, 0, 0), BARE);
    }

    private void judge(String text, int w, int judged, int breaks) {
        b.asked("judged(" + w + ") of " + text, Bounds.wall(text), x -> x.judged(w), judged);
        b.asked("breaks(" + w + ") of " + text, Bounds.wall(text), x -> x.breaks(w), breaks);
    }

    /** JUDGED 1: fewer are KEPT than keeps; the CELL that it paints with which, by numbers, too few are left. */
    private void keptJustEnough() {
        String line = "wall wide 5 high 1 keeps 2 parts 0;" + CLEAR;
        judge(line + "work h year 0 c 0,0 to 2,0", 0, 0, BARE);
        judge(line + "work h year 0 c 0,0 to 3,0", 0, 1, 3);
        judge(line + "work h year 0 c 0,0 to 4,0", 0, 1, 3);
        judge(line + "work h year 0 c 4,0 to 4,0,c 0,0 to 0,0,c 2,0 to 3,0", 0, 1, 4);
        judge(line + "work h year 0 c 1,0 to 4,0", 0, 1, 4);
        judge("wall wide 5 high 1 keeps 4 parts 0;" + CLEAR + "work h year 0 c 3,0 to 3,0", 0, 0, BARE);
        judge("wall wide 5 high 1 keeps 4 parts 0;" + CLEAR + "work h year 0 c 3,0 to 4,0", 0, 1, 4);
    }

    private void keptAllOrNothing() {
        judge("wall wide 5 high 1 keeps 5 parts 0;" + CLEAR + "work h year 0 c 3,0 to 3,0", 0, 1, 3);
        judge("wall wide 5 high 1 keeps 5 parts 0;" + CLEAR + "work h year 0 c 3,0 to 4,0,c 1,0 to 1,0", 0, 1, 1);
        judge("wall wide 5 high 1 keeps 0 parts 0;" + CLEAR + "work h year 0 c 0,0 to 4,0", 0, 0, BARE);
        judge("wall wide 5 high 1 keeps 1 parts 0;" + CLEAR + "work h year 0 c 0,0 to 4,0", 0, 1, 4);
        judge("wall wide 6 high 4 keeps 0 parts 1;" + CLEAR + "work h year 0 c 0,0 to 5,3", 0, 0, BARE);
        judge("wall wide 6 high 4 keeps 1 parts 1;" + CLEAR + "work h year 0 c 0,0 to 5,3", 0, 1, 23);
        judge("wall wide 6 high 4 keeps 24 parts 1;" + CLEAR + "work h year 0 c 5,3 to 5,3", 0, 1, 23);
        PaintedOver x = Check.wall("wall wide 5 high 1 keeps 5 parts 1;" + CLEAR + "work h year 0 c 3,0 to 3,0");
        x.scrape(3, 0);
        b.due("all are kept", x.judged(0), 0);
    }

    /** JUDGED 2: parts isn't 0 and KEPT are more PARTS; the first CELL of the PART that is one too many. */
    private void partsJustEnough() {
        String two = "wall wide 5 high 1 keeps 0 parts 2;" + CLEAR;
        judge(two + "work h year 0 c 1,0 to 1,0", 0, 0, BARE);
        judge(two + "work h year 0 c 1,0 to 1,0,c 3,0 to 3,0", 0, 2, 4);
        judge("wall wide 5 high 1 keeps 0 parts 1;" + CLEAR + "work h year 0 c 1,0 to 1,0", 0, 2, 2);
        judge("wall wide 5 high 1 keeps 0 parts 1;" + CLEAR + "work h year 0 c 1,0 to 1,0,c 3,0 to 3,0", 0, 2, 2);
        judge("wall wide 5 high 1 keeps 0 parts 1;" + CLEAR + "work h year 0 c 0,0 to 0,0,c 4,0 to 4,0", 0, 0, BARE);
        judge("wall wide 5 high 1 keeps 0 parts 0;" + CLEAR + "work h year 0 c 1,0 to 1,0,c 3,0 to 3,0", 0, 0, BARE);
        judge("wall wide 3 high 2 keeps 0 parts 1;" + CLEAR + "work h year 0 c 1,0 to 1,0,c 0,1 to 0,1", 0, 2, 2);
        judge("wall wide 3 high 3 keeps 0 parts 1;" + CLEAR + "work h year 0 c 1,0 to 1,1", 0, 0, BARE);
        judge("wall wide 3 high 3 keeps 0 parts 1;" + CLEAR + "work h year 0 c 1,0 to 1,1,c 0,2 to 0,2", 0, 2, 2);
    }

    private void partsOfNothing() {
        PaintedOver x = Check.wall("wall wide 2 high 2 keeps 0 parts 1;" + CLEAR + "work h year 0 c 0,0 to 1,1;work h year 0 c 0,0 to 0,0");
        b.due("parts of nothing", x.work(0, 4), 0);
        b.due("kept of nothing", x.work(0, 3), 0);
        b.due("nothing kept is judged", x.judged(0), 0);
        x.scrape(0, 0);
        b.due("parts of all", x.work(1, 4), 1);
        b.due("kept of all", x.work(1, 3), 4);
    }

    /** Parts up to 9: a wall painted as a chessboard has half its cells for PARTS. */
    private void nineParts() {
        b.due("nine parts", chessboard(6, 3, 9).wetJudged(), 0);
        b.due("nine parts, eight may be", chessboard(6, 3, 8).wetJudged(), 2);
        b.due("ten parts", chessboard(5, 4, 9).wetJudged(), 2);
        b.due("twelve parts, any may be", chessboard(6, 4, 0).wetJudged(), 0);
        PaintedOver x = chessboard(6, 4, 0);
        x.dry();
        b.due("parts of twelve", x.work(0, 4), 12);
        b.due("kept of twelve", x.work(0, 3), 12);
    }

    private static PaintedOver chessboard(int wide, int high, int parts) {
        PaintedOver x = Check.wall("wall wide " + wide + " high " + high + " keeps 0 parts " + parts + ";" + CLEAR + "hand i");
        x.begin(0, 0);
        for (int cell = 0; cell < wide * high; cell++) {
            int px = cell % wide;
            int py = cell / wide;
            if ((px + py) % 2 == 0) {
                x.patch(0, px, py, px, py);
            }
        }
        return x;
    }

    /** PARTS hang together by their sides: not by corners, nor over the end of a row. */
    private void hangTogetherBySides() {
        parts("wall wide 2 high 2", "c 0,0 to 0,0,c 1,1 to 1,1", 2);
        parts("wall wide 2 high 2", "c 1,0 to 1,0,c 0,1 to 0,1", 2);
        parts("wall wide 2 high 2", "c 1,1 to 1,1", 1);
        parts("wall wide 3 high 2", "c 0,0 to 1,0,c 1,1 to 2,1", 2);
        parts("wall wide 3 high 2", "c 0,0 to 0,0,c 2,1 to 2,1", 1);
        parts("wall wide 3 high 3", "c 0,0 to 0,0,c 2,0 to 2,0,c 0,2 to 0,2,c 2,2 to 2,2", 1);
        parts("wall wide 3 high 3", "c 1,1 to 1,1", 1);
        parts("wall wide 3 high 3", "c 0,1 to 2,1", 2);
        parts("wall wide 3 high 3", "c 1,0 to 1,2", 2);
        parts("wall wide 1 high 4", "c 0,1 to 0,1", 2);
        parts("wall wide 1 high 4", "c 0,0 to 0,0", 1);
        parts("wall wide 4 high 4", "c 0,1 to 2,1,c 1,3 to 1,3,c 3,3 to 3,3", 1);
        parts("wall wide 6 high 4", "c 1,1 to 4,2", 1);
        parts("wall wide 6 high 4", "c 0,0 to 4,0,c 0,1 to 4,2", 1);
        parts("wall wide 6 high 4", "c 0,0 to 4,1,c 1,2 to 5,3", 2);
    }

    private void parts(String wall, String patches, int due) {
        b.due("parts of " + wall + " " + patches, Check.wall(wall + " keeps 0 parts 0;" + CLEAR + "work h year 0 " + patches).work(0, 4), due);
    }

    /** JUDGED 3: it paints a CELL of a contract, in its year (from .. until). */
    private void contractYears() {
        String line = ROW + "contract 1,0 to 1,0 from 20 until 30;work h year ";
        judge(line + "19 c 1,0 to 1,0", 0, 0, BARE);
        judge(line + "20 c 1,0 to 1,0", 0, 3, 1);
        judge(line + "30 c 1,0 to 1,0", 0, 3, 1);
        judge(line + "31 c 1,0 to 1,0", 0, 0, BARE);
        String year = ROW + "contract 1,0 to 1,0 from 7 until 7;work h year ";
        judge(year + "6 c 1,0 to 1,0", 0, 0, BARE);
        judge(year + "7 c 1,0 to 1,0", 0, 3, 1);
        judge(year + "8 c 1,0 to 1,0", 0, 0, BARE);
        String ends = ROW + "contract 1,0 to 1,0 from 0 until 0;contract 3,0 to 3,0 from 999 until 999;work h year ";
        judge(ends + "0 c 0,0 to 4,0", 0, 3, 1);
        judge(ends + "999 c 0,0 to 4,0", 0, 3, 3);
    }

    private void contractCells() {
        String line = ROW + "contract 1,0 to 3,0 from 0 until 9;work h year 5 ";
        judge(line + "c 0,0 to 0,0,c 4,0 to 4,0", 0, 0, BARE);
        judge(line + "c 0,0 to 1,0", 0, 3, 1);
        judge(line + "c 3,0 to 4,0", 0, 3, 3);
        judge(line + "c 4,0 to 4,0,c 2,0 to 3,0", 0, 3, 2);
        judge(ROW + "contract 4,0 to 4,0 from 0 until 9;contract 1,0 to 1,0 from 0 until 4;contract 2,0 to 2,0 from 0 until 9;"
            + "contract 3,0 to 3,0 from 0 until 9;work h year 5 c 0,0 to 4,0", 0, 3, 2);
        PaintedOver x = Check.wall(line + "c 2,0 to 2,0");
        x.scrape(2, 0);
        b.due("what is gone isn't judged", x.judged(0), 0);
    }

    /** JUDGED 4: it has a colour that came up (since) behind its year; the first such CELL. */
    private void cameUp() {
        judge(ROW + "work h year 19 n 2,0 to 3,0", 0, 4, 2);
        judge(ROW + "work h year 20 n 2,0 to 3,0", 0, 0, BARE);
        judge(ROW + "work h year 19 c 0,0 to 4,0,n 3,0 to 3,0,n 4,0 to 4,0", 0, 4, 3);
        judge(ROW + "work h year 19 n 0,0 to 4,0,c 0,0 to 1,0", 0, 4, 2);
        judge(ROW + "work h year 19 n 0,0 to 1,0,c 0,0 to 4,0", 0, 0, BARE);
        judge("wall wide 1 high 1 keeps 0 parts 0;colour n thick 0 fades 0 since 999;hand h;work h year 998 n 0,0 to 0,0", 0, 4, 0);
        judge("wall wide 1 high 1 keeps 0 parts 0;colour n thick 0 fades 0 since 999;hand h;work h year 999 n 0,0 to 0,0", 0, 0, BARE);
    }

    /** JUDGED, by the first of these. */
    private void firstOfTheLaw() {
        String law = "wall wide 5 high 1 keeps 2 parts 1;" + CLEAR + "contract 3,0 to 3,0 from 0 until 9;work h year 5 ";
        judge(law + "n 1,0 to 4,0", 0, 1, 4);
        judge(law + "n 1,0 to 1,0,n 3,0 to 4,0", 0, 2, 2);
        judge(law + "n 1,0 to 3,0", 0, 2, 4);
        judge(law + "n 2,0 to 4,0", 0, 3, 3);
        judge(law + "n 4,0 to 4,0", 0, 4, 4);
        judge(law + "c 4,0 to 4,0", 0, 0, BARE);
    }

    /** What a WORK has paint on now; KEPT (as JUDGED now). */
    private void judgedAsNow() {
        PaintedOver x = Check.wall("wall wide 5 high 1 keeps 4 parts 1;" + CLEAR + "work h year 5 c 1,0 to 2,0");
        b.due("two painted", x.judged(0), 1);
        x.scrape(1, 0);
        b.due("one painted", x.judged(0), 2);
        b.due("one painted, breaks", x.breaks(0), 3);
        b.due("one painted, kept", x.work(0, 3), 4);
        b.due("one painted, parts", x.work(0, 4), 2);
        x.scrape(2, 0);
        b.due("none painted", x.judged(0), 0);
        b.due("none painted, breaks", x.breaks(0), BARE);
        b.due("none painted, cells", x.work(0, 2), 0);
        b.due("none painted, kept", x.work(0, 3), 5);
        b.due("none painted, parts", x.work(0, 4), 1);
    }

    /** FORGED: a WORK with a colour that came up behind its year; the first, -2 if there is none. */
    private void forged() {
        b.asked("of the year", Bounds.wall(ROW + "work h year 20 n 0,0 to 0,0"), x -> x.forged(), BARE);
        b.asked("of the year ahead", Bounds.wall(ROW + "work h year 19 n 0,0 to 0,0"), x -> x.forged(), 0);
        b.asked("without works", Bounds.wall(ROW + "hand i"), x -> x.forged(), BARE);
        b.asked("the first of two", Bounds.wall(ROW + "work h year 1 c 0,0 to 0,0;work h year 1 n 0,0 to 0,0;work h year 1 n 0,0 to 0,0"),
            x -> x.forged(), 1);
        b.asked("covered by its own", Bounds.wall(ROW + "work h year 1 n 0,0 to 0,0,c 0,0 to 0,0"), x -> x.forged(), BARE);
        b.asked("covered by another", Bounds.wall(ROW + "work h year 1 n 0,0 to 0,0;work h year 1 c 0,0 to 0,0"), x -> x.forged(), 0);
        b.asked("whatever it is judged", Bounds.wall("wall wide 1 high 1 keeps 1 parts 0;" + CLEAR + "work h year 1 n 0,0 to 0,0"), x -> x.forged(), 0);
        b.refused("without a book", PaintedOver::new, PaintedOver::forged, 1);
        PaintedOver x = Check.wall(ROW + "work h year 1 n 0,0 to 1,0");
        x.scrape(0, 0);
        b.due("a cell of it", x.forged(), 0);
        x.scrape(1, 0);
        b.due("no cell of it", x.forged(), BARE);
    }

    /** By how many CELLS a WORK SHOWS now. */
    private void leftOfCovered() {
        PaintedOver x = Check.wall(ROW + "work h year 1 c 0,0 to 2,0;work h year 1 c 1,0 to 2,0;work h year 1 c 0,0 to 0,0");
        b.due("covered by two", x.left(0), 0);
        b.due("covered by none", x.left(1), 2);
        b.due("the latest", x.left(2), 1);
        x.scrape(1, 0);
        b.due("uncovered", x.left(0), 1);
        x.scrape(1, 0);
        b.due("scraped", x.left(0), 0);
    }

    /** Surely before a later one, by number, if some CELL has paint of both. */
    private void beforeByOneCell() {
        PaintedOver x = Check.wall(ROW + "work h year 1 c 0,0 to 1,0;work h year 1 c 1,0 to 2,0;work h year 9 c 3,0 to 4,0");
        b.due("one cell of both", x.before(0, 1), 1);
        b.due("the later isn't before", x.before(1, 0), 0);
        b.due("no cell of both", x.before(1, 2), 0);
        b.due("a year is nothing", x.before(0, 2), 0);
        x.scrape(1, 0);
        b.due("no cell of both any more", x.before(0, 1), 0);
        x.undo();
        b.due("one cell again", x.before(0, 1), 1);
    }

    /** Or there is one between that is so with both. */
    private void beforeByOneBetween() {
        PaintedOver x = Check.wall("wall wide 6 high 1 keeps 0 parts 0;" + CLEAR
            + "work h year 1 c 0,0 to 1,0;work h year 1 c 1,0 to 2,0;work h year 1 c 2,0 to 3,0;work h year 1 c 3,0 to 4,0;work h year 1 c 5,0 to 5,0");
        b.due("one between", x.before(0, 2), 1);
        b.due("two between", x.before(0, 3), 1);
        b.due("not so with both", x.before(0, 4), 0);
        b.due("not backwards", x.before(3, 0), 0);
        b.due("orders of a chain and one", x.orders(), 5);
        b.due("untold of a chain and one", x.untold(), 4);
        PaintedOver y = Check.wall(ROW + "work h year 1 c 0,0 to 0,0;work h year 1 c 1,0 to 1,0;work h year 1 c 0,0 to 1,0");
        b.due("the one later than both isn't between", y.before(0, 1), 0);
        PaintedOver z = Check.wall(ROW + "work h year 1 c 0,0 to 1,0;work h year 1 c 0,0 to 0,0;work h year 1 c 1,0 to 1,0");
        b.due("the one ahead of both isn't between", z.before(1, 2), 0);
        b.due("orders of a fork", z.orders(), 2);
    }

    private void untold() {
        b.asked("without works", Bounds.wall(ROW + "hand i"), x -> x.untold(), 0);
        b.asked("of one", Bounds.wall(ROW + "work h year 1 c 0,0 to 0,0"), x -> x.untold(), 0);
        b.asked("of two apart", Bounds.wall(ROW + "work h year 1 c 0,0 to 0,0;work h year 1 c 1,0 to 1,0"), x -> x.untold(), 1);
        b.asked("of two, one over the other", Bounds.wall(ROW + "work h year 1 c 0,0 to 0,0;work h year 1 c 0,0 to 0,0"), x -> x.untold(), 0);
        b.refused("untold without a book", PaintedOver::new, PaintedOver::untold, 1);
    }

    private void orders() {
        b.asked("orders without works", Bounds.wall(ROW + "hand i"), x -> x.orders(), 1);
        b.asked("orders of one", Bounds.wall(ROW + "work h year 1 c 0,0 to 0,0"), x -> x.orders(), 1);
        b.asked("orders of two apart", Bounds.wall(ROW + "work h year 1 c 0,0 to 0,0;work h year 1 c 1,0 to 1,0"), x -> x.orders(), 2);
        b.refused("orders without a book", PaintedOver::new, PaintedOver::orders, 1);
        PaintedOver x = Check.wall("wall wide 6 high 2 keeps 0 parts 0;" + CLEAR + "hand i");
        long factorial = 1;
        for (int w = 0; w < 12; w++) {
            factorial *= w + 1;
            x.begin(0, 0);
            x.patch(0, w % 6, w / 6, w % 6, w / 6);
            x.dry();
            b.due("orders of " + (w + 1), x.orders(), factorial);
        }
        b.due("untold of twelve", x.untold(), 66);
        b.due("ahead of twelve", x.ahead(0, 11), factorial / 2);
        b.due("the last is placed first", x.placed(11, false), 0);
        b.due("the first is placed last", x.placed(0, true), 11);
        PaintedOver y = Check.wall("wall wide 6 high 2 keeps 0 parts 0;" + CLEAR + "hand i");
        for (int w = 0; w < 12; w++) {
            y.begin(0, 0);
            y.patch(0, 0, 0, 0, 0);
            y.dry();
        }
        b.due("orders of twelve, one over the other", y.orders(), 1);
        b.due("the last of twelve is placed last", y.placed(11, false), 11);
        b.due("the first of twelve is placed first", y.placed(0, true), 0);
        b.due("the first of twelve is before the last", y.before(0, 11), 1);
    }

    /** The earliest place (or the latest) that a WORK has in ORDERS. */
    private void placed() {
        Bounds.Start fork = Bounds.wall(ROW + "work h year 1 c 0,0 to 1,0;work h year 1 c 0,0 to 0,0;work h year 1 c 1,0 to 1,0;work h year 1 c 4,0 to 4,0");
        int[] earliest = {0, 1, 1, 0};
        int[] latest = {1, 3, 3, 3};
        for (int i = 0; i < 4; i++) {
            int w = i;
            b.asked("placed(" + w + ", false)", fork, x -> x.placed(w, false), earliest[w]);
            b.asked("placed(" + w + ", true)", fork, x -> x.placed(w, true), latest[w]);
        }
    }

    private void ahead() {
        Bounds.Start fork = Bounds.wall(ROW + "work h year 1 c 0,0 to 1,0;work h year 1 c 0,0 to 0,0;work h year 1 c 1,0 to 1,0;work h year 1 c 4,0 to 4,0");
        b.asked("orders of the fork", fork, x -> x.orders(), 8);
        b.asked("surely before", fork, x -> x.ahead(0, 1), 8);
        b.asked("surely behind", fork, x -> x.ahead(2, 0), 0);
        b.asked("either may be", fork, x -> x.ahead(1, 2), 4);
        b.asked("the one apart ahead of the root", fork, x -> x.ahead(3, 0), 2);
        b.asked("the root ahead of the one apart", fork, x -> x.ahead(0, 3), 6);
    }

    private void noBook() {
        b.refused("work", PaintedOver::new, x -> x.work(0, 0), 1);
        b.refused("before", PaintedOver::new, x -> x.before(0, 1), 1);
        b.refused("ahead", PaintedOver::new, x -> x.ahead(0, 1), 1);
    }
}
