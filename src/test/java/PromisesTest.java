/** The promises in their order, each on a small wall whose answers can be read off the page. */
public final class PromisesTest {
    private static final int NONE = PaintedOver.NONE;

    /** Cells 0 1 2 over 3 4 5: red, blue over red, red, gold over red, red, bare. */
    private static final String WALL = "wall wide 3 high 2 keeps 1 parts 2;"
        + "colour red thick 2 fades 0 since 0;colour blue thick 1 fades 10 since 20;colour gold thick 5 fades 3 since 30;"
        + "hand ann,bob;"
        + "work ann year 10 red 0,0 to 1,1;"
        + "work bob year 25 blue 1,0 to 2,0,red 2,0 to 2,0;"
        + "work ann year 28 gold 0,1 to 0,1;"
        + "contract 0,0 to 0,0 from 26 until 40;"
        + "want blue 0,0 to 1,0,gold 2,1 to 2,1";
    private static final String BIG = "wall wide 5 high 3 keeps 0 parts 0;colour c thick 1 fades 0 since 0;hand h;"
        + "work h year 0 c 0,0 to 0,0;contract 0,0 to 0,0 from 0 until 9";

    private final Check check = new Check();

    public static void main(String[] args) {
        PromisesTest test = new PromisesTest();
        test.newObject();
        test.feed();
        test.book();
        test.faultAndWhere();
        test.shows();
        test.fading();
        test.layers();
        test.counts();
        test.works();
        test.judging();
        test.emptiedWorks();
        test.sequence();
        test.twelveWorks();
        test.wanted();
        test.best();
        test.bestUnderLaw();
        test.need();
        test.reachLeastFreed();
        test.tooLarge();
        test.begin();
        test.patch();
        test.dryAndWipe();
        test.wet();
        test.scrapeAndThief();
        test.undo();
        test.images();
        test.led();
        test.size();
        test.trouble();
        test.check.end("PromisesTest");
    }

    private void due(String call, long got, long want) {
        check.due(call, got, want);
    }

    private void due(String call, boolean got, boolean want) {
        check.due(call, got, want);
    }

    private void refused(String call, PaintedOver x, long got, int why) {
        check.due(call, got, NONE);
        check.due(call + ", trouble()", x.trouble(), why);
    }

    private void refused(String call, PaintedOver x, boolean got, int why) {
        check.due(call, got, false);
        check.due(call + ", trouble()", x.trouble(), why);
    }

    private void newObject() {
        due("NONE", NONE, -1);
        for (int what = 0; what <= 12; what++) {
            due("new size(" + what + ")", new PaintedOver().size(what), 0);
        }
        PaintedOver x = new PaintedOver();
        due("new trouble()", x.trouble(), 0);
        due("new fault()", x.fault(), 0);
        due("new where()", x.where(), NONE);
        refused("no book shows", x, x.shows(0, 0), 1);
        refused("no book whose", x, x.whose(0, 0), 1);
        refused("no book was", x, x.was(0, 0, -1), 1);
        refused("no book scraped", x, x.scraped(0, 0, -1), 1);
        refused("no book deep", x, x.deep(0, 0), 1);
        refused("no book relief", x, x.relief(0, 0), 1);
        refused("no book light", x, x.light(0, 0), 1);
        refused("no book area", x, x.area(0), 1);
        refused("no book share", x, x.share(0), 1);
        refused("no book old", x, x.old(-1), 1);
        refused("no book changes", x, x.changes(0, 0), 1);
        refused("no book work", x, x.work(0, 0), 1);
        refused("no book paint", x, x.paint(0, 0, 0), 1);
        refused("no book judged", x, x.judged(0), 1);
        refused("no book breaks", x, x.breaks(0), 1);
        refused("no book forged", x, x.forged(), 1);
        refused("no book left", x, x.left(0), 1);
        refused("no book before", x, x.before(0, 1), 1);
        refused("no book untold", x, x.untold(), 1);
        refused("no book orders", x, x.orders(), 1);
        refused("no book placed", x, x.placed(0, true), 1);
        refused("no book ahead", x, x.ahead(0, 1), 1);
        refused("no book wanted", x, x.wanted(0, 0), 1);
        refused("no book alike", x, x.alike(), 1);
        refused("no book best", x, x.best(-1, 0), 1);
        refused("no book need", x, x.need(-1), 1);
        refused("no book step", x, x.step(-1, 0), 1);
        refused("no book reach", x, x.reach(-1), 1);
        refused("no book least", x, x.least(0, -1), 1);
        refused("no book freed", x, x.freed(0, -1), 1);
        refused("no book begin", x, x.begin(0, -1), 1);
        refused("no book patch", x, x.patch(0, 0, 0, 0, 0), 1);
        refused("no book dry", x, x.dry(), 6);
        refused("no book wipe", x, x.wipe(), 6);
        refused("no book wet", x, x.wet(0, 0), 1);
        refused("no book wetJudged", x, x.wetJudged(), 6);
        refused("no book scrape", x, x.scrape(0, 0), 1);
        refused("no book thief", x, x.thief(-1), 1);
        refused("no book undo", x, x.undo(), 6);
        refused("no book image", x, x.image(), 1);
        refused("no book back", x, x.back(0), 1);
        due("no book led(0)", Check.ledOrNone(x, 0), NONE);
    }

    private void feed() {
        PaintedOver x = new PaintedOver();
        for (int i = 1; i <= 45; i++) {
            due("feed " + i, x.feed(0x68616e64, 0x20612020, i == 1 ? -1 : 0x20202020, 0x20202020, 0x20202020), 20 * i);
        }
        due("feed 46", x.feed(0, 0, 0, 0, 0), NONE);
        due("size(12) of a full tape", x.size(12), 900);
        due("feed isn't refused by a number", x.trouble(), 0);
        refused("book(900)", x, x.book(900), 4);
        due("fault() at byte 255", x.fault(), 1);
        due("where() at byte 255", x.where(), 8);
        due("feed behind book", x.feed(0, 0, 0, 0, 0), 20);
    }

    private void book() {
        PaintedOver x = new PaintedOver();
        Check.feedText(x, "wall wide 1 high 1 keeps 0 parts 01");
        refused("book(-1)", x, x.book(-1), 2);
        refused("book(41)", x, x.book(41), 2);
        due("the tape stays", x.size(12), 40);
        due("book(34)", x.book(34), 0);
        due("the tape is empty", x.size(12), 0);
        due("parts of the first bytes alone", x.size(3), 0);
        refused("book(0), no line", x, x.book(0), 4);
        due("where() of no line", x.where(), 0);
        PaintedOver y = Check.wall(WALL);
        y.begin(0, 30);
        y.image();
        refused("a book with a fault", y, Check.tell(y, "wall wide 9"), 4);
        due("the tape is empty behind a fault", y.size(12), 0);
        due("the book stays", y.size(0), 3);
        due("the wet one stays", y.size(9), 1);
        due("what can be undone stays", y.size(10), 1);
        due("images stay", y.size(11), 1);
        due("book of the same wall", Check.tell(y, WALL), 3);
        due("nothing is wet", y.size(9), 0);
        due("nothing is to be undone", y.size(10), 0);
        due("no images are", y.size(11), 0);
        due("another wall", Check.tell(y, "wall wide 1 high 2 keeps 0 parts 0;hand h"), 0);
        due("wanted cells are gone", y.size(8), 0);
        due("colours are gone", y.size(4), 0);
        due("contracts are gone", y.size(7), 0);
        due("works are gone", y.size(6), 0);
        due("shows bare", y.shows(0, 1), -2);
    }

    private void faultAndWhere() {
        PaintedOver x = new PaintedOver();
        Check.tell(x, "hand a,a");
        due("fault()", x.fault(), 3);
        due("where()", x.where(), 7);
        x.feed(0, 0, 0, 0, 0);
        x.size(0);
        due("where() behind calls that can't be refused", x.where(), 7);
        x.book(-1);
        due("fault() behind a book refused by 2", x.fault(), 3);
        due("where() behind a book refused by 2", x.where(), NONE);
        x.book(20);
        due("fault() of a byte 0", x.fault(), 1);
        due("where() of a byte 0", x.where(), 0);
        x.shows(0, 0);
        due("where() behind another call refused", x.where(), NONE);
    }

    private void shows() {
        PaintedOver x = Check.wall(WALL);
        int[] colours = {0, 1, 0, 2, 0, -2};
        int[] hands = {0, 1, 1, 0, 0, -2};
        for (int cell = 0; cell < 6; cell++) {
            due("shows " + cell, x.shows(cell % 3, cell / 3), colours[cell]);
            due("whose " + cell, x.whose(cell % 3, cell / 3), hands[cell]);
        }
        refused("shows(-1, 0)", x, x.shows(-1, 0), 1);
        refused("shows(3, 0)", x, x.shows(3, 0), 1);
        refused("shows(0, -1)", x, x.shows(0, -1), 1);
        refused("shows(0, 2)", x, x.shows(0, 2), 1);
        refused("whose(3, 1)", x, x.whose(3, 1), 1);
        due("shows once more", x.shows(0, 0), 0);
        due("trouble() behind it", x.trouble(), 0);
    }

    private void fading() {
        PaintedOver x = Check.wall(WALL);
        due("was ahead of all", x.was(1, 0, 9), -2);
        due("was red", x.was(1, 0, 24), 0);
        due("was blue at once", x.was(1, 0, 25), 1);
        due("was blue to the last", x.was(1, 0, 34), 1);
        due("was red again", x.was(1, 0, 35), 0);
        due("was gold", x.was(0, 1, 30), 2);
        due("was gold no more", x.was(0, 1, 31), 0);
        due("was red for good", x.was(0, 0, 999), 0);
        due("was bare", x.was(2, 1, 0), -2);
        refused("was in 1000", x, x.was(0, 0, 1000), 2);
        refused("was in -1", x, x.was(0, 0, -1), 2);
        refused("was nowhere", x, x.was(3, 0, 1000), 1);
        due("changes where blue fades", x.changes(1, 0), 35);
        due("changes where gold fades", x.changes(0, 1), 31);
        due("changes of red", x.changes(0, 0), -2);
        due("changes of a bare one", x.changes(2, 1), -2);
        refused("changes nowhere", x, x.changes(0, 2), 1);
        due("changes without works", Check.wall("wall wide 1 high 1 keeps 0 parts 0").changes(0, 0), -2);
        PaintedOver y = Check.wall("wall wide 1 high 1 keeps 0 parts 0;colour c thick 0 fades 9 since 0;colour d thick 0 fades 4 since 0;"
            + "hand h;work h year 1 c 0,0 to 0,0;work h year 2 c 0,0 to 0,0;work h year 3 d 0,0 to 0,0");
        due("changes", y.changes(0, 0), 7);
        y.begin(0, 7);
        y.dry();
        due("changes behind a work in which d faded: c of the work ahead fades last", y.changes(0, 0), 11);
        PaintedOver z = Check.wall("wall wide 1 high 1 keeps 0 parts 0;colour c thick 0 fades 1 since 0;hand h;work h year 998 c 0,0 to 0,0");
        due("changes in the last year", z.changes(0, 0), 999);
        z.begin(0, 999);
        z.dry();
        due("changes from the last year on", z.changes(0, 0), -2);
    }

    private void layers() {
        PaintedOver x = Check.wall(WALL);
        due("scraped to 0", x.scraped(1, 0, 0), 1);
        due("scraped to 1", x.scraped(1, 0, 1), 0);
        due("scraped to 2", x.scraped(1, 0, 2), -2);
        due("scraped far", x.scraped(1, 0, Integer.MAX_VALUE), -2);
        due("scraped bare", x.scraped(2, 1, 0), -2);
        refused("scraped to -1", x, x.scraped(1, 0, -1), 2);
        refused("scraped nowhere", x, x.scraped(1, 2, -1), 1);
        int[] deep = {1, 2, 1, 2, 1, 0};
        int[] relief = {2, 3, 2, 7, 2, 0};
        int[] light = {1, 1, 0, 1, 0, 0};
        for (int cell = 0; cell < 6; cell++) {
            due("deep " + cell, x.deep(cell % 3, cell / 3), deep[cell]);
            due("relief " + cell, x.relief(cell % 3, cell / 3), relief[cell]);
            due("light " + cell, x.light(cell % 3, cell / 3), light[cell]);
        }
        refused("deep nowhere", x, x.deep(-1, 0), 1);
        refused("relief nowhere", x, x.relief(-1, 0), 1);
        refused("light nowhere", x, x.light(3, 0), 1);
        PaintedOver thin = Check.wall("wall wide 1 high 1 keeps 0 parts 0;colour c thick 0 fades 0 since 0;hand h;work h year 0 c 0,0 to 0,0");
        due("light of what isn't thick", thin.light(0, 0), 0);
    }

    private void counts() {
        PaintedOver x = Check.wall(WALL);
        due("area red", x.area(0), 3);
        due("area blue", x.area(1), 1);
        due("area gold", x.area(2), 1);
        refused("area of no colour", x, x.area(3), 1);
        refused("area of -2", x, x.area(-2), 1);
        due("share ann", x.share(0), 3);
        due("share bob", x.share(1), 2);
        refused("share of nobody", x, x.share(2), 1);
        refused("share of -2", x, x.share(-2), 1);
        due("old 9", x.old(9), 0);
        due("old 10", x.old(10), 2);
        due("old 25", x.old(25), 4);
        due("old 28", x.old(28), 5);
        due("old 999", x.old(999), 5);
        refused("old 1000", x, x.old(1000), 2);
        refused("old -1", x, x.old(-1), 2);
    }

    private void works() {
        PaintedOver x = Check.wall(WALL);
        int[][] told = {{0, 10, 4, 2, 1}, {1, 25, 2, 4, 1}, {0, 28, 1, 5, 1}};
        for (int w = 0; w < 3; w++) {
            for (int what = 0; what < 5; what++) {
                due("work(" + w + ", " + what + ")", x.work(w, what), told[w][what]);
            }
        }
        refused("work(3, 0)", x, x.work(3, 0), 1);
        refused("work(-1, 0)", x, x.work(-1, 0), 1);
        refused("work(0, 5)", x, x.work(0, 5), 1);
        refused("work(0, -1)", x, x.work(0, -1), 1);
        due("paint below", x.paint(0, 1, 0), 0);
        due("paint of the former patch", x.paint(1, 1, 0), 1);
        due("paint of the later patch over it", x.paint(1, 2, 0), 0);
        due("no paint", x.paint(1, 0, 0), -2);
        refused("paint of none", x, x.paint(3, 0, 0), 1);
        refused("paint nowhere", x, x.paint(0, 3, 0), 1);
        due("left 0", x.left(0), 2);
        due("left 1", x.left(1), 2);
        due("left 2", x.left(2), 1);
        refused("left 3", x, x.left(3), 1);
        x.scrape(1, 0);
        due("left 0 behind a scrape", x.left(0), 3);
        due("work(1, 2) behind a scrape", x.work(1, 2), 1);
        due("work(1, 3) behind a scrape", x.work(1, 3), 5);
    }

    private void judging() {
        PaintedOver x = Check.wall("wall wide 4 high 2 keeps 3 parts 2;colour old thick 0 fades 0 since 0;colour new thick 0 fades 0 since 50;"
            + "hand h;contract 3,1 to 3,1 from 20 until 30;"
            + "work h year 10 new 0,0 to 3,0,old 0,1 to 1,1;"
            + "work h year 10 new 1,0 to 1,1,new 2,1 to 2,1,new 3,0 to 3,0;"
            + "work h year 19 old 3,1 to 3,1;"
            + "work h year 20 new 3,1 to 3,1,new 0,0 to 0,0;"
            + "work h year 30 old 2,1 to 3,1;"
            + "work h year 31 old 3,0 to 3,1,new 2,1 to 2,1;"
            + "work h year 49 old 0,0 to 0,0,new 1,0 to 1,0;"
            + "work h year 50 new 0,0 to 0,0;"
            + "work h year 51 new 0,0 to 3,0,old 0,0 to 0,0");
        int[] judged = {1, 2, 0, 3, 3, 4, 4, 0, 0};
        int[] breaks = {5, 7, -2, 7, 7, 6, 1, -2, -2};
        for (int w = 0; w < 9; w++) {
            due("judged(" + w + ")", x.judged(w), judged[w]);
            due("breaks(" + w + ")", x.breaks(w), breaks[w]);
        }
        refused("judged(9)", x, x.judged(9), 1);
        refused("breaks(-1)", x, x.breaks(-1), 1);
        due("parts", x.work(1, 4), 3);
        due("forged()", x.forged(), 0);
        due("forged() of none", Check.wall("wall wide 1 high 1 keeps 0 parts 0").forged(), -2);
        due("forged() of the wall", Check.wall(WALL).forged(), 2);
        PaintedOver rows = Check.wall("wall wide 2 high 3 keeps 0 parts 1;colour c thick 0 fades 0 since 0;hand h;"
            + "work h year 0 c 0,0 to 1,0,c 0,1 to 0,1,c 1,2 to 1,2");
        due("a row's end and the next row's beginning hang not together", rows.work(0, 4), 2);
        due("breaks in the second part", rows.breaks(0), 4);
        PaintedOver whole = Check.wall("wall wide 2 high 1 keeps 0 parts 1;colour c thick 0 fades 0 since 0;hand h;work h year 0 c 0,0 to 1,0");
        due("nothing kept has no parts", whole.work(0, 4), 0);
        due("nothing kept is judged", whole.judged(0), 0);
    }

    private void emptiedWorks() {
        PaintedOver x = Check.wall(WALL);
        due("judged(2) as it is", x.judged(2), 4);
        due("scrape its cell", x.scrape(0, 1), true);
        due("judged(2) without paint", x.judged(2), 0);
        due("forged() without it", x.forged(), -2);
        due("before(0, 2) without it", x.before(0, 2), 0);
        due("untold() without it", x.untold(), 2);
        due("work(2, 2)", x.work(2, 2), 0);
        due("it stays a work", x.size(6), 3);
    }

    private void sequence() {
        PaintedOver x = Check.wall(WALL);
        due("before(0, 1)", x.before(0, 1), 1);
        due("before(1, 0)", x.before(1, 0), 0);
        due("before(1, 2)", x.before(1, 2), 0);
        refused("before(1, 1)", x, x.before(1, 1), 1);
        refused("before(1, 3)", x, x.before(1, 3), 1);
        refused("before(-1, 1)", x, x.before(-1, 1), 1);
        due("untold()", x.untold(), 1);
        due("orders()", x.orders(), 2);
        due("placed(0, false)", x.placed(0, false), 0);
        due("placed(0, true)", x.placed(0, true), 0);
        due("placed(1, false)", x.placed(1, false), 1);
        due("placed(1, true)", x.placed(1, true), 2);
        refused("placed(3, true)", x, x.placed(3, true), 1);
        due("ahead(1, 2)", x.ahead(1, 2), 1);
        due("ahead(0, 2)", x.ahead(0, 2), 2);
        due("ahead(2, 0)", x.ahead(2, 0), 0);
        refused("ahead(2, 2)", x, x.ahead(2, 2), 1);
        refused("ahead(0, 3)", x, x.ahead(0, 3), 1);
        PaintedOver chain = Check.wall("wall wide 4 high 1 keeps 0 parts 0;colour c thick 0 fades 0 since 0;hand h;"
            + "work h year 0 c 0,0 to 1,0;work h year 0 c 1,0 to 2,0;work h year 0 c 3,0 to 3,0;work h year 0 c 2,0 to 2,0");
        due("before by one between", chain.before(0, 3), 1);
        due("untold beside the chain", chain.untold(), 3);
        due("orders of a chain and one", chain.orders(), 4);
        due("the one can come first", chain.placed(2, false), 0);
        due("the one can come last", chain.placed(2, true), 3);
        due("the chain's middle, earliest", chain.placed(1, false), 1);
        due("the chain's middle, latest", chain.placed(1, true), 2);
        due("the one ahead of the middle", chain.ahead(2, 1), 2);
        due("no works, one order", Check.wall("wall wide 1 high 1 keeps 0 parts 0").orders(), 1);
        due("no works, none untold", Check.wall("wall wide 1 high 1 keeps 0 parts 0").untold(), 0);
    }

    private void twelveWorks() {
        PaintedOver x = Check.wall("wall wide 4 high 3 keeps 0 parts 0;colour c thick 9 fades 0 since 0;hand h");
        for (int w = 0; w < 12; w++) {
            due("begin " + w, x.begin(0, w), true);
            due("patch " + w, x.patch(0, w % 4, w / 4, w % 4, w / 4), true);
            due("dry " + w, x.dry(), w);
        }
        refused("begin a 13th", x, x.begin(0, 11), 3);
        due("orders() of 12 free ones", x.orders(), 479001600L);
        due("ahead() of 12 free ones", x.ahead(11, 0), 239500800L);
        due("placed(11, false)", x.placed(11, false), 0);
        due("placed(0, true)", x.placed(0, true), 11);
        due("untold()", x.untold(), 66);
        due("undo a dry", x.undo(), true);
        refused("begin where one is wet", x, x.begin(0, 11), 5);
        refused("begin ahead of the latest", x, x.begin(0, 9), 2);
    }

    private void wanted() {
        PaintedOver x = Check.wall(WALL);
        int[] wanted = {1, 1, -2, -2, -2, 2};
        for (int cell = 0; cell < 6; cell++) {
            due("wanted " + cell, x.wanted(cell % 3, cell / 3), wanted[cell]);
        }
        refused("wanted nowhere", x, x.wanted(3, 1), 1);
        due("alike()", x.alike(), 1);
        PaintedOver y = Check.wall("wall wide 2 high 1 keeps 0 parts 0;colour c thick 0 fades 0 since 0;colour d thick 0 fades 0 since 0;"
            + "want c 0,0 to 1,0,d 1,0 to 1,0");
        due("wanted by the latest patch", y.wanted(1, 0), 1);
        due("cells wanted", y.size(8), 2);
        due("alike() of a bare wall", y.alike(), 0);
        due("alike() where nothing is wanted", Check.wall(BIG).alike(), 0);
    }

    private void best(PaintedOver x, int year, int alike, int many, int bits) {
        due("best(" + year + ", 0)", x.best(year, 0), alike);
        due("best(" + year + ", 1)", x.best(year, 1), many);
        due("best(" + year + ", 2)", x.best(year, 2), bits);
    }

    private void best() {
        PaintedOver x = Check.wall(WALL);
        best(x, 0, 1, 0, 0);
        best(x, 15, 1, 0, 0);
        best(x, 25, 2, 1, 1);
        best(x, 30, 2, 1, 32);
        best(x, 41, 3, 2, 33);
        best(x, 999, 3, 2, 33);
        refused("best what 3", x, x.best(30, 3), 1);
        refused("best what -1", x, x.best(1000, -1), 1);
        refused("best in 1000", x, x.best(1000, 0), 2);
        refused("best in -1", x, x.best(-1, 0), 2);
    }

    private void bestUnderLaw() {
        String line = "wall wide 4 high 1 keeps 1 parts 1;colour c thick 0 fades 0 since 5;colour d thick 0 fades 0 since 100;hand h;";
        PaintedOver x = Check.wall(line + "want c 1,0 to 1,0");
        best(x, 4, 0, 0, 0);
        best(x, 5, 1, 2, 3);
        due("need", x.need(5), 1);
        due("step", x.step(5, 0), 3);
        PaintedOver y = Check.wall(line + "work h year 100 d 0,0 to 0,0;want d 0,0 to 0,0,c 1,0 to 1,0");
        best(y, 50, 2, 3, 14);
        best(y, 100, 2, 2, 3);
        due("need without what is spoiled", y.step(50, 0), 14);
        PaintedOver z = Check.wall(line + "work h year 100 d 0,0 to 0,0;want d 0,0 to 0,0,c 1,0 to 1,0;contract 3,0 to 3,0 from 50 until 60");
        best(z, 50, 1, 0, 0);
        due("need that can't be", z.need(50), -2);
        due("reach that is no more", z.reach(50), 1);
        due("reach in another year", z.reach(61), 2);
        due("freed", z.freed(0, 50), 1);
        PaintedOver equal = Check.wall("wall wide 3 high 1 keeps 2 parts 0;colour c thick 0 fades 0 since 0;want c 0,0 to 2,0");
        best(equal, 0, 1, 1, 1);
    }

    private void steps(PaintedOver x, int year, int... cells) {
        due("need", x.need(year), cells.length);
        for (int i = 0; i < cells.length; i++) {
            due("step " + i, x.step(year, i), cells[i]);
        }
        refused("step behind the last", x, x.step(year, cells.length), 1);
        refused("step -1", x, x.step(year, -1), 1);
    }

    private void need() {
        PaintedOver x = Check.wall(WALL);
        steps(x, 41, 33);
        due("need in 30", x.need(30), -2);
        due("need in 25", x.need(25), -2);
        refused("step where need can't be", x, x.step(30, 0), 6);
        refused("step -1 where need can't be", x, x.step(30, -1), 1);
        refused("need in 1000", x, x.need(1000), 2);
        refused("step in 1000", x, x.step(1000, 0), 2);
        refused("need in -1", x, x.need(-1), 2);
        String line = "wall wide 4 high 1 keeps 2 parts 0;colour c thick 0 fades 0 since 0;hand h;";
        steps(Check.wall(line + "want c 0,0 to 3,0"), 0, 3, 12);
        steps(Check.wall(line + "want c 1,0 to 3,0"), 0, 2, 12);
        steps(Check.wall(line + "hand i"), 7);
        steps(Check.wall(line + "work h year 3 c 0,0 to 1,0;want c 0,0 to 1,0"), 0);
        steps(Check.wall("wall wide 6 high 2 keeps 11 parts 0;colour c thick 0 fades 0 since 0;want c 0,0 to 5,1"), 0,
            1, 2, 4, 8, 16, 32, 64, 128, 256, 512, 1024, 2048);
        due("need of a law that keeps all", Check.wall("wall wide 2 high 1 keeps 2 parts 0;colour c thick 0 fades 0 since 0;"
            + "want c 0,0 to 1,0").need(0), -2);
        PaintedOver two = Check.wall(line + "want c 0,0 to 3,0");
        due("need ahead of an act", two.need(0), 2);
        two.begin(0, 0);
        two.patch(0, 2, 0, 2, 0);
        due("need isn't changed by what is wet", two.step(0, 0), 3);
        two.dry();
        steps(two, 0, 1, 10);
        Check.tell(two, "wall wide 4 high 1 keeps 3 parts 0;colour c thick 0 fades 0 since 0;hand h;want c 0,0 to 3,0");
        steps(two, 0, 1, 2, 4, 8);
    }

    private void reachLeastFreed() {
        PaintedOver x = Check.wall(WALL);
        due("reach(0)", x.reach(0), 1);
        due("reach(25)", x.reach(25), 2);
        due("reach(30)", x.reach(30), 2);
        due("reach(41)", x.reach(41), 3);
        refused("reach(1000)", x, x.reach(1000), 2);
        due("least(0, 30)", x.least(0, 30), 1);
        due("least(0, 41)", x.least(0, 41), 0);
        due("least(1, 41)", x.least(1, 41), 0);
        refused("least(3, 1000)", x, x.least(3, 1000), 1);
        refused("least(0, 1000)", x, x.least(0, 1000), 2);
        due("freed(0, 30)", x.freed(0, 30), 1);
        due("freed(0, 41)", x.freed(0, 41), 0);
        refused("freed(1, 1000)", x, x.freed(1, 1000), 1);
        refused("freed(-1, 30)", x, x.freed(-1, 30), 1);
        refused("freed(0, -1)", x, x.freed(0, -1), 2);
        String line = "wall wide 3 high 1 keeps 2 parts 0;colour c thick 0 fades 0 since 5;hand h;want c 0,0 to 2,0;";
        PaintedOver y = Check.wall(line + "work h year 9 c 0,0 to 2,0");
        due("least of three behind one", y.least(0, 5), 2);
        due("least ahead of all colours", y.least(0, 4), 3);
        due("reach by more than one", Check.wall(line + "contract 0,0 to 0,0 from 6 until 6").reach(5), 3);
        due("reach under a contract", Check.wall(line + "contract 0,0 to 0,0 from 6 until 6").reach(6), 2);
        due("reach where it costs more than it brings", Check.wall("wall wide 3 high 1 keeps 1 parts 1;"
            + "colour c thick 0 fades 0 since 0;colour d thick 0 fades 0 since 9;hand h;work h year 9 d 0,0 to 0,0,d 2,0 to 2,0;"
            + "want d 0,0 to 0,0,c 1,0 to 1,0,d 2,0 to 2,0").reach(0), 2);
        PaintedOver twice = Check.wall("wall wide 2 high 1 keeps 0 parts 0;colour c thick 0 fades 0 since 0;want c 0,0 to 1,0;"
            + "contract 0,0 to 1,0 from 1 until 5;contract 1,0 to 1,0 from 5 until 9");
        due("freed of the one, where the other holds too", twice.freed(0, 5), 1);
        due("freed of the other", twice.freed(1, 5), 0);
        due("freed of the one alone", twice.freed(0, 4), 2);
    }

    private void tooLarge() {
        PaintedOver x = Check.wall(BIG);
        refused("best", x, x.best(0, 0), 3);
        refused("best in 1000", x, x.best(1000, 0), 2);
        refused("need", x, x.need(0), 3);
        refused("step", x, x.step(0, 0), 3);
        refused("step -1", x, x.step(0, -1), 1);
        refused("reach", x, x.reach(0), 3);
        refused("least", x, x.least(0, 0), 3);
        refused("least of none", x, x.least(1, 0), 1);
        refused("freed", x, x.freed(0, 0), 3);
        refused("freed of none", x, x.freed(1, 0), 1);
        due("twelve cells aren't too many", Check.wall("wall wide 6 high 2 keeps 0 parts 0").best(0, 1), 0);
    }

    private void begin() {
        PaintedOver x = Check.wall(WALL);
        refused("begin of nobody", x, x.begin(2, 1000), 1);
        refused("begin of -1", x, x.begin(-1, 30), 1);
        refused("begin in 27", x, x.begin(0, 27), 2);
        refused("begin in 1000", x, x.begin(0, 1000), 2);
        refused("begin in -1", x, x.begin(0, -1), 2);
        due("nothing is wet", x.size(9), 0);
        due("nothing is to be undone", x.size(10), 0);
        due("begin", x.begin(1, 28), true);
        due("one is wet", x.size(9), 1);
        due("it is no work yet", x.size(6), 3);
        due("one act", x.size(10), 1);
        due("nothing is painted", x.wet(0, 0), -2);
        refused("begin again", x, x.begin(0, 28), 5);
        due("begin on a bare wall in 0", Check.wall("wall wide 1 high 1 keeps 0 parts 0;hand h").begin(0, 0), true);
    }

    private void patch() {
        PaintedOver x = Check.wall(WALL);
        refused("patch of nothing wet", x, x.patch(0, 0, 0, 0, 0), 6);
        x.begin(1, 30);
        refused("patch of no colour", x, x.patch(3, 0, 0, 3, 0), 1);
        refused("patch of -1", x, x.patch(-1, 0, 0, 0, 0), 1);
        refused("patch beyond the right", x, x.patch(0, 0, 0, 3, 0), 2);
        refused("patch beyond the low", x, x.patch(0, 0, 0, 0, 2), 2);
        refused("patch from -1", x, x.patch(0, -1, 0, 0, 0), 2);
        refused("patch from above", x, x.patch(0, 0, -1, 0, 0), 2);
        refused("patch from the right", x, x.patch(0, 1, 0, 0, 0), 2);
        refused("patch from below", x, x.patch(0, 0, 1, 0, 0), 2);
        due("patch", x.patch(2, 0, 0, 1, 1), true);
        due("patch over it", x.patch(0, 1, 1, 2, 1), true);
        int[] colours = {2, 2, -2, 2, 0, 0};
        for (int cell = 0; cell < 6; cell++) {
            due("wet " + cell, x.wet(cell % 3, cell / 3), colours[cell]);
        }
        for (int i = 0; i < 6; i++) {
            due("patch " + i, x.patch(1, 2, 0, 2, 0), true);
        }
        due("shows nowhere", x.shows(2, 1), -2);
        due("wetJudged()", x.wetJudged(), 1);
    }

    private void dryAndWipe() {
        PaintedOver x = Check.wall(WALL);
        refused("dry of nothing", x, x.dry(), 6);
        refused("wipe of nothing", x, x.wipe(), 6);
        x.begin(1, 30);
        x.patch(2, 0, 0, 0, 0);
        refused("dry against a contract", x, x.dry(), 5);
        due("it is wet yet", x.size(9), 1);
        due("a refused act is none", x.size(10), 2);
        due("wipe", x.wipe(), true);
        due("nothing is wet", x.size(9), 0);
        refused("wet of nothing", x, x.wet(0, 0), 6);
        x.begin(1, 30);
        due("no paint from the wiped one", x.wet(0, 0), -2);
        x.patch(2, 2, 1, 2, 1);
        due("dry", x.dry(), 3);
        due("works", x.size(6), 4);
        due("nothing is wet any more", x.size(9), 0);
        due("it shows", x.shows(2, 1), 2);
        due("alike()", x.alike(), 2);
        due("its hand", x.work(3, 0), 1);
        due("its year", x.work(3, 1), 30);
        x.begin(0, 30);
        due("a work without paint dries", x.dry(), 4);
    }

    private void wet() {
        PaintedOver x = Check.wall(WALL);
        refused("wet nowhere", x, x.wet(3, 0), 1);
        refused("wet, none", x, x.wet(0, 0), 6);
        refused("wetJudged, none", x, x.wetJudged(), 6);
        x.begin(0, 29);
        due("wetJudged 0", x.wetJudged(), 0);
        x.patch(2, 2, 1, 2, 1);
        due("wetJudged 4", x.wetJudged(), 4);
        x.patch(2, 0, 0, 0, 0);
        due("wetJudged 3", x.wetJudged(), 3);
        refused("judged of the wet one", x, x.judged(3), 1);
        x.patch(0, 0, 0, 2, 1);
        due("wetJudged 1", x.wetJudged(), 1);
        refused("wet nowhere, one is", x, x.wet(0, 2), 1);
        PaintedOver parts = Check.wall("wall wide 3 high 1 keeps 0 parts 1;colour c thick 0 fades 0 since 0;hand h");
        parts.begin(0, 0);
        parts.patch(0, 1, 0, 1, 0);
        due("wetJudged 2", parts.wetJudged(), 2);
        refused("dry of too many parts", parts, parts.dry(), 5);
    }

    private void scrapeAndThief() {
        PaintedOver x = Check.wall(WALL);
        due("scrape", x.scrape(1, 0), true);
        due("red comes up", x.shows(1, 0), 0);
        due("deep", x.deep(1, 0), 1);
        due("scrape again", x.scrape(1, 0), true);
        refused("scrape what is bare", x, x.scrape(1, 0), 6);
        refused("scrape nowhere", x, x.scrape(3, 0), 1);
        due("works stay", x.size(6), 3);
        PaintedOver y = Check.wall(WALL);
        y.begin(0, 40);
        y.patch(0, 2, 1, 2, 1);
        refused("thief of none", y, y.thief(28), 6);
        refused("thief in 1000", y, y.thief(1000), 2);
        refused("thief in -1", y, y.thief(-1), 2);
        due("thief of later than 10", y.thief(10), 3);
        due("works stay behind a thief", y.size(6), 3);
        due("shows behind a thief", y.shows(2, 0), -2);
        due("shows below a thief", y.shows(0, 1), 0);
        due("the wet one is no work yet", y.wet(2, 1), 0);
        due("thief of the rest", y.thief(0), 4);
        refused("thief of nothing", y, y.thief(0), 6);
        due("a thief's cells", Check.wall(WALL).thief(9), 5);
        due("a year stays", y.work(2, 1), 28);
        PaintedOver bare = Check.wall("wall wide 1 high 1 keeps 0 parts 0;colour c thick 0 fades 0 since 0;hand h");
        bare.begin(0, 0);
        bare.patch(0, 0, 0, 0, 0);
        refused("scrape what is wet", bare, bare.scrape(0, 0), 6);
    }

    private void undo() {
        PaintedOver x = Check.wall(WALL);
        refused("undo of nothing", x, x.undo(), 6);
        x.begin(0, 30);
        x.patch(2, 2, 1, 2, 1);
        x.dry();
        x.thief(9);
        x.scrape(0, 0);
        due("acts", x.size(10), 4);
        due("undo a thief", x.undo(), true);
        due("all paint is back", x.shows(2, 1), 2);
        due("acts left", x.size(10), 3);
        due("undo a dry", x.undo(), true);
        due("it is wet again", x.wet(2, 1), 2);
        due("works", x.size(6), 3);
        due("undo a patch", x.undo(), true);
        due("it has no paint", x.wet(2, 1), -2);
        due("undo a begin", x.undo(), true);
        due("nothing is wet", x.size(9), 0);
        refused("undo no more", x, x.undo(), 6);
        x.begin(0, 30);
        x.patch(0, 0, 0, 0, 0);
        x.wipe();
        due("undo a wipe", x.undo(), true);
        due("what was wiped", x.wet(0, 0), 0);
        for (int i = 0; i < 11; i++) {
            x.patch(i % 3, 0, 0, 0, 0);
        }
        due("eight are kept", x.size(10), 8);
        for (int i = 0; i < 8; i++) {
            due("undo " + i, x.undo(), true);
            due("wet behind undo " + i, x.wet(0, 0), (9 - i) % 3);
        }
        refused("undo a ninth", x, x.undo(), 6);
        x.patch(1, 0, 0, 0, 0);
        due("acts go on", x.size(10), 1);
        due("undo it", x.undo(), true);
        due("wet as before", x.wet(0, 0), 2);
    }

    private void images() {
        PaintedOver x = Check.wall(WALL);
        refused("back to none", x, x.back(0), 1);
        due("image", x.image(), 0);
        x.begin(1, 30);
        x.patch(2, 2, 1, 2, 1);
        due("image of a wet one", x.image(), 1);
        x.dry();
        x.thief(0);
        due("image behind a thief", x.image(), 2);
        refused("a fourth", x, x.image(), 3);
        due("an image is no act", x.size(10), 4);
        due("back to the wet one", x.back(1), true);
        due("nothing can be undone", x.size(10), 0);
        due("wet as it was", x.wet(2, 1), 2);
        due("paint as it was", x.shows(1, 0), 1);
        due("images stay", x.size(11), 3);
        due("dry it", x.dry(), 3);
        due("back to the first", x.back(0), true);
        due("works", x.size(6), 3);
        due("nothing is wet", x.size(9), 0);
        due("back to the thief's", x.back(2), true);
        due("works behind the thief", x.size(6), 4);
        due("bare", x.shows(0, 0), -2);
        refused("back to 3", x, x.back(3), 1);
        refused("back to -1", x, x.back(-1), 1);
        due("undo keeps images", x.scrape(0, 0), false);
        x.back(0);
        x.scrape(0, 0);
        x.back(0);
        due("an image isn't painted on", x.shows(0, 0), 0);
    }

    private void led() {
        PaintedOver x = Check.wall(WALL);
        due("led(0)", Check.ledOrNone(x, 0), 5);
        due("led(1)", Check.ledOrNone(x, 1), NONE);
        due("led(-1)", Check.ledOrNone(x, -1), NONE);
        x.scrape(2, 0);
        x.begin(0, 28);
        x.patch(0, 2, 1, 2, 1);
        due("led(0) behind a scrape", Check.ledOrNone(x, 0), 2);
        due("led(1) behind a scrape", Check.ledOrNone(x, 1), 5);
        x.shows(9, 9);
        Check.ledOrNone(x, 7);
        due("led isn't refused by a number", x.trouble(), 1);
    }

    private void size() {
        PaintedOver x = Check.wall(WALL);
        int[] sizes = {3, 2, 1, 2, 3, 2, 3, 1, 3, 0, 0, 0, 0};
        for (int what = 0; what < sizes.length; what++) {
            due("size(" + what + ")", x.size(what), sizes[what]);
        }
        due("size(13)", x.size(13), NONE);
        due("size(-1)", x.size(-1), NONE);
    }

    private void trouble() {
        PaintedOver x = Check.wall(WALL);
        due("trouble() behind a book", x.trouble(), 0);
        x.orders();
        due("trouble() behind orders", x.trouble(), 0);
        x.area(9);
        x.size(99);
        x.fault();
        x.where();
        x.feed(0, 0, 0, 0, 0);
        due("trouble() stays", x.trouble(), 1);
        x.ahead(0, 1);
        due("trouble() behind ahead", x.trouble(), 0);
        x.area(9);
        x.begin(0, 30);
        due("trouble() behind a begin", x.trouble(), 0);
        x.area(9);
        x.undo();
        due("trouble() behind an undo", x.trouble(), 0);
        x.area(9);
        x.best(0, 0);
        due("trouble() behind best", x.trouble(), 0);
    }
}
