/** Promises 36 to 46 at their bounds: acts, what refuses them, that they are undone, images. */
public final class ActsBoundsTest {
    private static final int BARE = Bounds.BARE;
    private static final String C = "colour c thick 1 fades 0 since 0;";
    private static final String HAND = "hand h;";
    private static final String ROW = "wall wide 3 high 1 keeps 0 parts 0;" + C + "colour d thick 1 fades 0 since 0;";
    private static final int[] NO_YEAR = {-1, 1000, Integer.MIN_VALUE, Integer.MAX_VALUE};

    private final Bounds b = new Bounds();

    public static void main(String[] args) {
        ActsBoundsTest test = new ActsBoundsTest();
        test.handsThatBegin();
        test.yearsThatBegin();
        test.notBelowTheLatest();
        test.twelveWorks();
        test.oneIsWet();
        test.firstRefusalOfBegin();
        test.beginPaintsNothing();
        test.coloursOfAPatch();
        test.cornersOfAPatch();
        test.patchOfNothingWet();
        test.manyPatches();
        test.dryOfNothing();
        test.dryAsJudged();
        test.wipe();
        test.wet();
        test.wetJudged();
        test.scrape();
        test.thiefOfYears();
        test.thiefOfNone();
        test.thiefsCells();
        test.undoOfNothing();
        test.undoOfEachAct();
        test.eightAreKept();
        test.refusedActsAreNone();
        test.threeImages();
        test.imageKeepsTheWetOne();
        test.handsAndYearsComeBack();
        test.backToNone();
        test.backCantBeUndone();
        test.allImagesStay();
        test.b.end("ActsBoundsTest");
    }

    private static Bounds.Start dry() {
        return Bounds.wall(Bounds.WALL);
    }

    /** On WALL, begun by ann in 30. */
    private static PaintedOver begun() {
        PaintedOver x = Check.wall(Bounds.WALL);
        x.begin(0, 30);
        return x;
    }

    private static PaintedOver withWorks(int n) {
        PaintedOver x = Check.wall(ROW + "hand h");
        for (int i = 0; i < n; i++) {
            x.begin(0, i);
            x.patch(0, i % 3, 0, i % 3, 0);
            x.dry();
        }
        return x;
    }

    private void handsThatBegin() {
        int[] none = {-1, 2, 5, Integer.MIN_VALUE, Integer.MAX_VALUE};
        b.granted("begin by the first hand", dry(), x -> x.begin(0, 30));
        b.granted("begin by the last hand", dry(), x -> x.begin(1, 30));
        for (int hand : none) {
            b.denied("begin by " + hand, dry(), x -> x.begin(hand, 30), 1);
        }
        b.denied("begin without hands", Bounds.wall("wall wide 1 high 1 keeps 0 parts 0"), x -> x.begin(0, 0), 1);
        b.denied("begin without a book", PaintedOver::new, x -> x.begin(0, 0), 1);
    }

    /** 2 (a year 0 .. 999, not below that of the latest WORK). */
    private void yearsThatBegin() {
        b.granted("begin in 999", dry(), x -> x.begin(0, 999));
        b.granted("begin in 0 without works", Bounds.wall(ROW + "hand h"), x -> x.begin(0, 0));
        for (int year : NO_YEAR) {
            b.denied("begin in " + year, dry(), x -> x.begin(0, year), 2);
            b.denied("begin in " + year + " without works", Bounds.wall(ROW + "hand h"), x -> x.begin(0, year), 2);
        }
    }

    private void notBelowTheLatest() {
        b.granted("begin in the year of the latest", dry(), x -> x.begin(0, 25));
        b.denied("begin in the year ahead", dry(), x -> x.begin(0, 24), 2);
        b.denied("begin in 0", dry(), x -> x.begin(0, 0), 2);
        Bounds.Start robbed = () -> {
            PaintedOver x = Check.wall(Bounds.WALL);
            x.thief(0);
            return x;
        };
        b.denied("begin ahead of a work without paint", robbed, x -> x.begin(0, 24), 2);
        b.granted("begin in the year of a work without paint", robbed, x -> x.begin(0, 25));
        PaintedOver x = Check.wall(Bounds.WALL);
        x.begin(0, 70);
        x.wipe();
        b.due("the wiped one's year is nothing", x.begin(0, 25) ? 1 : 0, 1);
        x.dry();
        b.due("the same year again", x.begin(1, 25) ? 1 : 0, 1);
    }

    /** 3 (12 WORKS are). */
    private void twelveWorks() {
        b.granted("the twelfth", () -> withWorks(11), x -> x.begin(0, 11));
        b.denied("the thirteenth", () -> withWorks(12), x -> x.begin(0, 11), 3);
        PaintedOver x = withWorks(11);
        x.begin(0, 11);
        b.due("dry the twelfth", x.dry(), 11);
        b.due("works", x.size(6), 12);
        b.due("undo it", x.undo() ? 1 : 0, 1);
        b.due("dry it again", x.dry(), 11);
        b.due("no more", x.begin(0, 11) ? 1 : 0, 0);
        b.due("robbed works stay", x.thief(0), 3);
        b.due("no more behind a thief", x.begin(0, 11) ? 1 : 0, 0);
        b.due("no more behind a thief, trouble()", x.trouble(), 3);
    }

    private void oneIsWet() {
        b.denied("begin where one is wet", ActsBoundsTest::begun, x -> x.begin(0, 30), 5);
        Bounds.Start wiped = () -> {
            PaintedOver x = begun();
            x.wipe();
            return x;
        };
        b.granted("begin where one was wiped", wiped, x -> x.begin(0, 30));
        Bounds.Start dried = () -> {
            PaintedOver x = begun();
            x.dry();
            return x;
        };
        b.granted("begin where one is dried", dried, x -> x.begin(0, 30));
    }

    /** 1, 2, 3, 5: the first of them. */
    private void firstRefusalOfBegin() {
        b.denied("no hand, no year, full", () -> withWorks(12), x -> x.begin(1, 10), 1);
        b.denied("no year, full", () -> withWorks(12), x -> x.begin(0, 10), 2);
        b.denied("no hand, no year, wet", ActsBoundsTest::begun, x -> x.begin(2, 24), 1);
        b.denied("no year, wet", ActsBoundsTest::begun, x -> x.begin(0, 24), 2);
        Bounds.Start twelfthWet = () -> {
            PaintedOver x = withWorks(11);
            x.begin(0, 20);
            return x;
        };
        b.denied("the twelfth is wet", twelfthWet, x -> x.begin(0, 20), 5);
        b.denied("a year behind the latest, not the wet one's", twelfthWet, x -> x.begin(0, 15), 5);
        b.denied("a year ahead of the latest", twelfthWet, x -> x.begin(0, 9), 2);
    }

    /** BEGIN a WORK, nothing painted. */
    private void beginPaintsNothing() {
        PaintedOver x = Check.wall(ROW + "hand h");
        x.begin(0, 5);
        x.patch(1, 0, 0, 2, 0);
        x.wipe();
        x.begin(0, 3);
        for (int px = 0; px < 3; px++) {
            b.due("nothing painted at " + px, x.wet(px, 0), BARE);
        }
        b.due("dry", x.dry(), 0);
        b.due("its year", x.work(0, 1), 3);
        b.due("its cells", x.work(0, 2), 0);
        b.due("its kept", x.work(0, 3), 3);
    }

    private void coloursOfAPatch() {
        int[] none = {-1, -2, 2, 5, Integer.MIN_VALUE, Integer.MAX_VALUE};
        b.granted("patch of the first colour", ActsBoundsTest::begun, x -> x.patch(0, 0, 0, 0, 0));
        b.granted("patch of the last colour", ActsBoundsTest::begun, x -> x.patch(1, 0, 0, 0, 0));
        for (int colour : none) {
            b.denied("patch of " + colour, ActsBoundsTest::begun, x -> x.patch(colour, 0, 0, 0, 0), 1);
            b.denied("patch of " + colour + " nowhere, nothing wet", dry(), x -> x.patch(colour, 1, 0, 0, 0), 1);
        }
        b.denied("patch without a book", PaintedOver::new, x -> x.patch(0, 0, 0, 0, 0), 1);
        b.granted("patch of a colour that came up later", ActsBoundsTest::early, x -> x.patch(0, 0, 0, 0, 0));
    }

    private static PaintedOver early() {
        PaintedOver x = Check.wall("wall wide 1 high 1 keeps 0 parts 0;colour n thick 0 fades 0 since 9;hand h");
        x.begin(0, 8);
        return x;
    }

    /** 2 (no such PATCH): on the wall, its lower right corner not ahead of the upper left one. */
    private void cornersOfAPatch() {
        int[][] taken = {{0, 0, 0, 0}, {2, 1, 2, 1}, {0, 0, 2, 1}, {2, 0, 2, 1}, {0, 1, 2, 1}, {1, 0, 1, 1}};
        int[] cells = {1, 1, 6, 2, 3, 2};
        for (int i = 0; i < taken.length; i++) {
            int[] at = taken[i];
            b.granted("patch " + i, ActsBoundsTest::begun, x -> x.patch(0, at[0], at[1], at[2], at[3]));
            PaintedOver x = begun();
            x.patch(0, at[0], at[1], at[2], at[3]);
            int found = 0;
            for (int cell = 0; cell < 6; cell++) {
                boolean within = cell % 3 >= at[0] && cell % 3 <= at[2] && cell / 3 >= at[1] && cell / 3 <= at[3];
                b.due("patch " + i + " at " + cell, x.wet(cell % 3, cell / 3), within ? 0 : BARE);
                found += within ? 1 : 0;
            }
            b.due("cells of patch " + i, found, cells[i]);
        }
        int min = Integer.MIN_VALUE;
        int max = Integer.MAX_VALUE;
        int[][] none = {
            {-1, 0, 0, 0}, {0, -1, 0, 0}, {0, 0, 3, 0}, {0, 0, 0, 2}, {3, 0, 3, 0}, {0, 2, 0, 2}, {1, 0, 0, 0}, {0, 1, 0, 0},
            {2, 1, 1, 1}, {2, 1, 2, 0}, {0, 0, -1, 0}, {0, 0, 0, -1}, {-1, -1, -1, -1}, {min, 0, 0, 0}, {0, min, 0, 0},
            {0, 0, max, 0}, {0, 0, 0, max}, {max, max, max, max}, {min, min, max, max}, {0, 0, min, 0}, {3, 1, 3, 1},
        };
        for (int[] at : none) {
            String name = "patch " + at[0] + "," + at[1] + " to " + at[2] + "," + at[3];
            b.denied(name, ActsBoundsTest::begun, x -> x.patch(0, at[0], at[1], at[2], at[3]), 2);
            b.denied(name + ", nothing wet", dry(), x -> x.patch(0, at[0], at[1], at[2], at[3]), 2);
            b.denied(name + " of no colour", ActsBoundsTest::begun, x -> x.patch(2, at[0], at[1], at[2], at[3]), 1);
        }
    }

    private void patchOfNothingWet() {
        b.denied("patch of nothing wet", dry(), x -> x.patch(0, 0, 0, 0, 0), 6);
        PaintedOver x = begun();
        x.dry();
        b.due("patch of what is dry", x.patch(0, 0, 0, 0, 0) ? 1 : 0, 0);
        b.due("patch of what is dry, trouble()", x.trouble(), 6);
        x.undo();
        b.due("patch of what is wet again", x.patch(0, 0, 0, 0, 0) ? 1 : 0, 1);
        x.wipe();
        b.due("patch of what is wiped", x.patch(0, 0, 0, 0, 0) ? 1 : 0, 0);
        b.due("patch of what is wiped, trouble()", x.trouble(), 6);
    }

    /** A wet one may have more patches than a LINE can tell: none of patch()'s refusals is for many. */
    private void manyPatches() {
        PaintedOver x = Check.wall(ROW + "hand h");
        x.begin(0, 0);
        for (int i = 0; i < 30; i++) {
            b.due("patch " + i, x.patch(i % 2, i % 3, 0, i % 3, 0) ? 1 : 0, 1);
        }
        b.due("the latest at 0", x.wet(0, 0), 1);
        b.due("the latest at 1", x.wet(1, 0), 0);
        b.due("the latest at 2", x.wet(2, 0), 1);
    }

    private void dryOfNothing() {
        b.refused("dry of nothing", dry(), PaintedOver::dry, 6);
        b.refused("dry without a book", PaintedOver::new, PaintedOver::dry, 6);
        PaintedOver x = begun();
        b.due("dry", x.dry(), 2);
        b.due("dry again", x.dry(), Bounds.NONE);
        b.due("dry again, trouble()", x.trouble(), 6);
        b.due("works", x.size(6), 3);
    }

    private static PaintedOver wetOne(int year, int... patches) {
        PaintedOver x = Check.wall("wall wide 5 high 1 keeps 2 parts 1;" + C + "colour n thick 0 fades 0 since 20;" + HAND
            + "contract 4,0 to 4,0 from 10 until 30");
        x.begin(0, year);
        for (int i = 0; i + 2 < patches.length; i += 3) {
            x.patch(patches[i], patches[i + 1], 0, patches[i + 2], 0);
        }
        return x;
    }

    /** 5 (it is JUDGED else than 0 as it is). */
    private void dryAsJudged() {
        dried("keeps 2 of 5", 9, 0, 0, 2);
        notDried("keeps 1 of 5", 1, 9, 0, 0, 3);
        dried("one part", 9, 0, 0, 1);
        notDried("two parts", 2, 9, 0, 1, 1);
        dried("in the year ahead of a contract", 9, 0, 4, 4);
        notDried("in a contract's first year", 3, 10, 0, 4, 4);
        notDried("in a contract's last year", 3, 30, 0, 4, 4);
        dried("in the year behind a contract", 31, 0, 4, 4);
        notDried("in the year ahead of a colour's", 4, 19, 1, 0, 0);
        dried("in the year of a colour", 20, 1, 0, 0);
        dried("with nothing painted", 10);
        dried("covered again", 19, 1, 0, 1, 0, 0, 1);
    }

    private void dried(String what, int year, int... patches) {
        Bounds.Start start = () -> wetOne(year, patches);
        b.asked("wetJudged, " + what, start, PaintedOver::wetJudged, 0);
        b.taken("dry, " + what, start, PaintedOver::dry, 0);
        PaintedOver x = start.make();
        x.dry();
        b.due("judged, " + what, x.judged(0), 0);
        b.due("nothing is wet, " + what, x.size(9), 0);
        b.due("works, " + what, x.size(6), 1);
    }

    private void notDried(String what, int judged, int year, int... patches) {
        Bounds.Start start = () -> wetOne(year, patches);
        b.asked("wetJudged, " + what, start, PaintedOver::wetJudged, judged);
        b.refused("dry, " + what, start, PaintedOver::dry, 5);
    }

    private void wipe() {
        b.denied("wipe of nothing", dry(), PaintedOver::wipe, 6);
        b.denied("wipe without a book", PaintedOver::new, PaintedOver::wipe, 6);
        b.granted("wipe", ActsBoundsTest::begun, PaintedOver::wipe);
        PaintedOver x = Bounds.busy();
        x.wipe();
        b.due("nothing is wet", x.size(9), 0);
        b.due("works stay", x.size(6), 2);
        b.due("wipe again", x.wipe() ? 1 : 0, 0);
        b.due("wipe again, trouble()", x.trouble(), 6);
    }

    /** NONE: 1; 6 (nothing is wet). */
    private void wet() {
        b.refused("wet of nothing", dry(), x -> x.wet(0, 0), 6);
        b.refused("wet of nothing, nowhere", dry(), x -> x.wet(3, 0), 1);
        b.refused("wet nowhere", ActsBoundsTest::begun, x -> x.wet(3, 0), 1);
        b.refused("wet without a book", PaintedOver::new, x -> x.wet(0, 0), 1);
        b.asked("wet, nothing painted", ActsBoundsTest::begun, x -> x.wet(0, 0), BARE);
        b.asked("wet, painted", Bounds::busy, x -> x.wet(1, 1), 0);
    }

    private void wetJudged() {
        b.refused("wetJudged of nothing", dry(), PaintedOver::wetJudged, 6);
        b.refused("wetJudged without a book", PaintedOver::new, PaintedOver::wetJudged, 6);
        b.asked("wetJudged of nothing painted", ActsBoundsTest::begun, PaintedOver::wetJudged, 0);
    }

    /** SCRAPE: the latest WORK's paint at a CELL is gone; 6 (it is bare). */
    private void scrape() {
        b.denied("scrape a bare cell", dry(), x -> x.scrape(2, 1), 6);
        b.denied("scrape what is wet alone", Bounds::busy, x -> x.scrape(2, 1), 6);
        b.denied("scrape without a book", PaintedOver::new, x -> x.scrape(0, 0), 1);
        b.granted("scrape the one paint", dry(), x -> x.scrape(0, 0));
        PaintedOver x = Check.wall(Bounds.WALL);
        b.due("scrape the latest of two", x.scrape(1, 0) ? 1 : 0, 1);
        b.due("paint of the latest", x.paint(1, 1, 0), BARE);
        b.due("its other paint", x.paint(1, 2, 0), 1);
        b.due("paint of the one below", x.paint(0, 1, 0), 0);
        b.due("scrape the one below", x.scrape(1, 0) ? 1 : 0, 1);
        b.due("paint below is gone", x.paint(0, 1, 0), BARE);
        b.due("other paint below", x.paint(0, 0, 0), 0);
        b.due("scrape a third time", x.scrape(1, 0) ? 1 : 0, 0);
        b.due("scrape a third time, trouble()", x.trouble(), 6);
        b.due("works stay", x.size(6), 2);
        b.due("acts", x.size(10), 2);
    }

    /** 2 (a year 0 .. 999); all paint of WORKS later than a year. */
    private void thiefOfYears() {
        for (int year : NO_YEAR) {
            b.refused("thief in " + year, dry(), x -> x.thief(year), 2);
            b.refused("thief without a book in " + year, PaintedOver::new, x -> x.thief(year), 1);
        }
        b.refused("thief without a book", PaintedOver::new, x -> x.thief(0), 1);
        b.taken("thief of later than 0", dry(), x -> x.thief(0), 5);
        b.taken("thief of later than 9", dry(), x -> x.thief(9), 5);
        b.taken("thief of later than 10", dry(), x -> x.thief(10), 2);
        b.taken("thief of later than 24", dry(), x -> x.thief(24), 2);
        b.refused("thief of later than 25", dry(), x -> x.thief(25), 6);
        b.refused("thief of later than 999", dry(), x -> x.thief(999), 6);
        Bounds.Start last = Bounds.wall(ROW + HAND + "work h year 0 c 0,0 to 0,0;work h year 999 c 1,0 to 2,0");
        b.taken("thief of 999", last, x -> x.thief(998), 2);
        b.taken("thief keeps 0", last, x -> x.thief(0), 2);
        b.refused("thief of later than 999, works of 999", last, x -> x.thief(999), 6);
    }

    /** 6 (from none). */
    private void thiefOfNone() {
        b.refused("thief of no works", Bounds.wall(ROW + "hand h"), x -> x.thief(0), 6);
        b.refused("thief of a wet one", () -> withWetOne(), x -> x.thief(0), 6);
        PaintedOver x = Check.wall(ROW + HAND + "work h year 9 c 0,0 to 0,0");
        x.scrape(0, 0);
        b.due("thief of a work without paint", x.thief(0), Bounds.NONE);
        b.due("thief of a work without paint, trouble()", x.trouble(), 6);
        b.due("acts", x.size(10), 1);
    }

    private static PaintedOver withWetOne() {
        PaintedOver x = Check.wall(ROW + "hand h");
        x.begin(0, 9);
        x.patch(0, 0, 0, 2, 0);
        return x;
    }

    /** From how many CELLS some paint is gone: each once, what shows there or not. */
    private void thiefsCells() {
        PaintedOver x = Check.wall(ROW + HAND + "work h year 1 c 0,0 to 2,0;work h year 2 d 0,0 to 1,0;work h year 3 c 1,0 to 1,0");
        b.due("thief of two works", x.thief(1), 2);
        b.due("works stay", x.size(6), 3);
        b.due("the earlier stays", x.deep(1, 0), 1);
        b.due("its colour", x.shows(1, 0), 0);
        b.due("their years stay", x.work(2, 1), 3);
        b.due("their cells don't", x.work(2, 2), 0);
        b.due("thief of them again", x.thief(1), Bounds.NONE);
        b.due("thief of the rest", x.thief(0), 3);
        x.undo();
        x.undo();
        b.due("all is back", x.deep(1, 0), 3);
        b.due("thief of all", x.thief(0), 3);
    }

    private void undoOfNothing() {
        b.denied("undo of nothing", dry(), PaintedOver::undo, 6);
        b.denied("undo without a book", PaintedOver::new, PaintedOver::undo, 6);
        PaintedOver x = begun();
        b.due("undo of one act", x.undo() ? 1 : 0, 1);
        b.due("undo of one act, trouble()", x.trouble(), 0);
        b.due("undo again", x.undo() ? 1 : 0, 0);
        b.due("undo again, trouble()", x.trouble(), 6);
        x.image();
        b.due("an image isn't undone", x.undo() ? 1 : 0, 0);
    }

    private void undoOfEachAct() {
        b.undone("begin", dry(), x -> x.begin(0, 30) ? 1 : 0);
        b.undone("patch", Bounds::busy, x -> x.patch(0, 0, 0, 2, 1) ? 1 : 0);
        b.undone("patch of nothing new", Bounds::busy, x -> x.patch(1, 2, 1, 2, 1) ? 1 : 0);
        b.undone("dry", Bounds::busy, PaintedOver::dry);
        b.undone("wipe", Bounds::busy, x -> x.wipe() ? 1 : 0);
        b.undone("scrape", Bounds::busy, x -> x.scrape(1, 0) ? 1 : 0);
        b.undone("thief", Bounds::busy, x -> x.thief(0));
    }

    /** UNDO: the latest (8 are kept). */
    private void eightAreKept() {
        PaintedOver x = Check.wall(ROW + "hand h");
        x.begin(0, 0);
        for (int i = 1; i <= 12; i++) {
            x.patch(i % 2, i % 3, 0, i % 3, 0);
            b.due("acts behind " + i + " patches", x.size(10), Math.min(8, i + 1));
        }
        for (int i = 12; i > 4; i--) {
            b.due("undo patch " + i, x.undo() ? 1 : 0, 1);
            b.due("patch " + i + " was over patch " + (i - 3), x.wet(i % 3, 0), i > 3 ? (i - 3) % 2 : BARE);
            b.due("acts", x.size(10), i - 5);
        }
        b.due("a ninth isn't kept", x.undo() ? 1 : 0, 0);
        b.due("a ninth isn't kept, trouble()", x.trouble(), 6);
        b.due("what the ninth did stays", x.wet(1, 0), 0);
        b.due("one is wet", x.size(9), 1);
    }

    private void refusedActsAreNone() {
        PaintedOver x = begun();
        x.begin(0, 30);
        x.patch(0, 3, 0, 3, 0);
        x.scrape(2, 1);
        x.thief(25);
        x.patch(1, 0, 0, 2, 1);
        x.dry();
        b.due("acts", x.size(10), 2);
        x.undo();
        b.due("the patch is undone", x.wet(0, 0), BARE);
        x.undo();
        b.due("the begin is undone", x.size(9), 0);
    }

    /** IMAGES: up to 3. */
    private void threeImages() {
        PaintedOver x = Check.wall(Bounds.WALL);
        for (int i = 0; i < 3; i++) {
            b.due("images", x.size(11), i);
            b.due("image", x.image(), i);
            b.due("image, trouble()", x.trouble(), 0);
        }
        b.due("images", x.size(11), 3);
        Bounds.Start full = () -> {
            PaintedOver y = Bounds.busy();
            y.image();
            return y;
        };
        b.refused("a fourth image", full, PaintedOver::image, 3);
        b.refused("an image without a book", PaintedOver::new, PaintedOver::image, 1);
        b.taken("the third image", Bounds::busy, PaintedOver::image, 2);
        Check.tell(x, "wall wide 1 high 1 keeps 0 parts 0");
        b.due("the first image of another book", x.image(), 0);
    }

    /** Each keeps all WORKS, the wet one. */
    private void imageKeepsTheWetOne() {
        PaintedOver x = Bounds.busy();
        String seen = Bounds.walls(x);
        b.due("image", x.image(), 2);
        b.same("an image changes nothing", Bounds.walls(x), seen);
        x.patch(0, 0, 0, 2, 1);
        x.wipe();
        x.thief(0);
        x.begin(0, 50);
        x.dry();
        b.due("back", x.back(2) ? 1 : 0, 1);
        b.same("all is as by the image", Bounds.walls(x), seen);
        b.due("the wet one can be dried", x.dry(), 2);
        b.due("back again", x.back(2) ? 1 : 0, 1);
        b.same("the image is as it was", Bounds.walls(x), seen);
        b.due("back to one ahead of it", x.back(0) ? 1 : 0, 1);
        b.same("all is as at first", Bounds.walls(x), Bounds.walls(Check.wall(Bounds.WALL)));
        b.due("the wet one wasn't", x.size(9), 0);
    }

    private void works(String what, PaintedOver x, int hand, int year) {
        b.due(what + ", the number", x.dry(), 2);
        b.due(what + ", the hand", x.work(2, 0), hand);
        b.due(what + ", the year", x.work(2, 1), year);
    }

    /** All is as by an IMAGE, by an undo: whose the works are and when they were, too. */
    private void handsAndYearsComeBack() {
        PaintedOver x = begun();
        x.image();
        x.dry();
        x.image();
        x.undo();
        x.wipe();
        x.begin(1, 44);
        works("another", x, 1, 44);
        x.back(1);
        b.due("the dry one's hand, by its image", x.work(2, 0), 0);
        b.due("the dry one's year, by its image", x.work(2, 1), 30);
        x.back(0);
        x.wipe();
        x.begin(1, 55);
        x.back(0);
        works("the wet one by its image", x, 0, 30);
        PaintedOver y = begun();
        y.wipe();
        y.begin(1, 66);
        y.undo();
        y.undo();
        works("the wiped one, undone", y, 0, 30);
    }

    private void backToNone() {
        int[] none = {-1, 2, 3, Integer.MIN_VALUE, Integer.MAX_VALUE};
        b.granted("back to the first", Bounds::busy, x -> x.back(0));
        b.granted("back to the last", Bounds::busy, x -> x.back(1));
        for (int image : none) {
            b.denied("back to " + image, Bounds::busy, x -> x.back(image), 1);
        }
        b.denied("back without images", ActsBoundsTest::begun, x -> x.back(0), 1);
        b.denied("back without a book", PaintedOver::new, x -> x.back(0), 1);
    }

    /** Gone back to, nothing can be undone. */
    private void backCantBeUndone() {
        PaintedOver x = Bounds.busy();
        x.back(1);
        b.due("acts", x.size(10), 0);
        b.due("undo", x.undo() ? 1 : 0, 0);
        b.due("undo, trouble()", x.trouble(), 6);
        x.wipe();
        b.due("acts behind it", x.size(10), 1);
        b.due("undo of those", x.undo() ? 1 : 0, 1);
        b.due("no more", x.undo() ? 1 : 0, 0);
        PaintedOver y = begun();
        y.image();
        b.due("an image leaves acts", y.size(10), 1);
        b.due("they can be undone", y.undo() ? 1 : 0, 1);
        b.due("images stay when undone", y.size(11), 1);
    }

    private void allImagesStay() {
        PaintedOver x = Bounds.busy();
        String first = Bounds.walls(Check.wall(Bounds.WALL));
        x.image();
        for (int turn = 0; turn < 2; turn++) {
            for (int i = 2; i >= 0; i--) {
                b.due("back to " + i, x.back(i) ? 1 : 0, 1);
                b.due("images", x.size(11), 3);
            }
            b.same("the first", Bounds.walls(x), first);
            x.scrape(0, 0);
        }
        b.due("no room for another", x.image(), Bounds.NONE);
        b.due("no room for another, trouble()", x.trouble(), 3);
    }
}
