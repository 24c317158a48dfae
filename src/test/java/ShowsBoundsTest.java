/** Promises 6 to 16 at their bounds: what shows, at the wall's edges, in the first and last years, between works. */
public final class ShowsBoundsTest {
    private static final int BARE = Bounds.BARE;
    private static final int[][] BEYOND = {
        {-1, 0}, {3, 0}, {0, -1}, {0, 2}, {-1, -1}, {3, 1}, {2, 2}, {3, 2}, {5, 0}, {-3, 1}, {6, -1},
        {Integer.MIN_VALUE, 0}, {Integer.MAX_VALUE, 0}, {0, Integer.MIN_VALUE}, {0, Integer.MAX_VALUE},
    };
    private static final String CLEAR = "colour c thick 1 fades 0 since 0;colour f thick 1 fades 5 since 0;colour g thick 1 fades 1 since 0;hand h;";
    private static final String TWO = "wall wide 2 high 1 keeps 0 parts 0;" + CLEAR;
    private static final String TWO_ROWS = "wall wide 2 high 2 keeps 0 parts 0;";

    private final Bounds b = new Bounds();

    private interface At {
        long on(PaintedOver x, int px, int py);
    }

    public static void main(String[] args) {
        ShowsBoundsTest test = new ShowsBoundsTest();
        test.edgesOfTheWall();
        test.edgesForScrape();
        test.numbersOfCells();
        test.laterPatches();
        test.latestWork();
        test.firstAndLastYear();
        test.yearOfAWork();
        test.fades();
        test.fadedOverOther();
        test.wasOfScraped();
        test.depths();
        test.reliefOfAll();
        test.light();
        test.colours();
        test.hands();
        test.years();
        test.changesFromTheLatestOn();
        test.changesInTheLastYear();
        test.changesWithoutWorks();
        test.wetShowsNowhere();
        test.b.end("ShowsBoundsTest");
    }

    /** The four corners of the wall are CELLS, what lies beyond isn't: NONE, 1. */
    private void edges(String name, At call, int... corners) {
        for (int i = 0; i < 4; i++) {
            int px = i % 2 * 2;
            int py = i / 2;
            b.asked(name + " " + px + "," + py, Bounds::busy, x -> call.on(x, px, py), corners[i]);
        }
        for (int[] at : BEYOND) {
            b.refused(name + " " + at[0] + "," + at[1], Bounds::busy, x -> call.on(x, at[0], at[1]), 1);
        }
        b.refused(name + " without a book", PaintedOver::new, x -> call.on(x, 0, 0), 1);
    }

    private void edgesOfTheWall() {
        edges("shows", PaintedOver::shows, 0, 1, BARE, BARE);
        edges("whose", PaintedOver::whose, 0, 1, BARE, BARE);
        edges("was", (x, px, py) -> x.was(px, py, 999), 0, BARE, BARE, BARE);
        edges("scraped", (x, px, py) -> x.scraped(px, py, 0), 0, 1, BARE, BARE);
        edges("deep", PaintedOver::deep, 1, 1, 0, 0);
        edges("relief", PaintedOver::relief, 2, 1, 0, 0);
        edges("light", PaintedOver::light, 1, 0, 0, 0);
        edges("changes", PaintedOver::changes, BARE, 35, BARE, BARE);
        edges("paint", (x, px, py) -> x.paint(0, px, py), 0, BARE, BARE, BARE);
        edges("wanted", PaintedOver::wanted, 1, BARE, BARE, 0);
        edges("wet", PaintedOver::wet, BARE, BARE, BARE, 1);
    }

    private void edgesForScrape() {
        b.granted("scrape 0,0", Bounds::busy, x -> x.scrape(0, 0));
        b.granted("scrape 2,0", Bounds::busy, x -> x.scrape(2, 0));
        b.denied("scrape 0,1", Bounds::busy, x -> x.scrape(0, 1), 6);
        b.denied("scrape 2,1", Bounds::busy, x -> x.scrape(2, 1), 6);
        for (int[] at : BEYOND) {
            b.denied("scrape " + at[0] + "," + at[1], Bounds::busy, x -> x.scrape(at[0], at[1]), 1);
        }
    }

    /** CELLS have numbers: wide times y and x. */
    private void numbersOfCells() {
        PaintedOver x = Check.wall("wall wide 3 high 4 keeps 0 parts 0;" + CLEAR + "work h year 0 c 0,0 to 1,3,c 2,0 to 2,2;want c 2,3 to 2,3");
        b.due("the last cell", Check.ledOrNone(x, 0), 11);
        b.due("the last cell as bits", x.best(0, 2), 1 << 11);
        x.scrape(1, 2);
        b.due("the cell at 1,2", Check.ledOrNone(x, 0), 7);
        x.scrape(0, 3);
        b.due("the cell at 0,3", Check.ledOrNone(x, 1), 9);
    }

    /** Of a WORK the later PATCHES lie over the earlier ones: each CELL it paints has one colour by it. */
    private void laterPatches() {
        PaintedOver x = Check.wall(TWO + "work h year 0 c 0,0 to 1,0,f 1,0 to 1,0;work h year 0 f 0,0 to 0,0,c 0,0 to 0,0");
        b.due("the later patch shows", x.shows(1, 0), 1);
        b.due("the last patch shows", x.shows(0, 0), 0);
        b.due("cells of a work", x.work(0, 2), 2);
        b.due("one colour by a work", x.deep(1, 0), 1);
        b.due("two works", x.deep(0, 0), 2);
        b.due("the thick of one", x.relief(1, 0), 1);
    }

    private void latestWork() {
        PaintedOver x = Check.wall(TWO + "hand i;work h year 3 c 0,0 to 1,0;work i year 3 f 0,0 to 0,0;work h year 3 g 1,0 to 1,0");
        b.due("the latest of one year", x.shows(0, 0), 1);
        b.due("whose that is", x.whose(0, 0), 1);
        b.due("a later one elsewhere", x.shows(1, 0), 2);
        b.due("in that year, too", x.was(0, 0, 3), 1);
        x.scrape(0, 0);
        b.due("the one below", x.shows(0, 0), 0);
        b.due("whose that was", x.whose(0, 0), 0);
        x.scrape(0, 0);
        b.due("bare", x.shows(0, 0), BARE);
        b.due("nobody's", x.whose(0, 0), BARE);
    }

    /** A YEAR (0 .. 999). NONE: 1; 2. */
    private void firstAndLastYear() {
        int[] none = {-1, 1000, Integer.MIN_VALUE, Integer.MAX_VALUE};
        b.asked("was in 0", Bounds::busy, x -> x.was(0, 0, 0), BARE);
        b.asked("was in 999", Bounds::busy, x -> x.was(0, 0, 999), 0);
        b.asked("old in 0", Bounds::busy, x -> x.old(0), 0);
        b.asked("old in 999", Bounds::busy, x -> x.old(999), 4);
        for (int year : none) {
            b.refused("was in " + year, Bounds::busy, x -> x.was(0, 0, year), 2);
            b.refused("was nowhere in " + year, Bounds::busy, x -> x.was(3, 0, year), 1);
            b.refused("old in " + year, Bounds::busy, x -> x.old(year), 2);
            b.refused("old without a book in " + year, PaintedOver::new, x -> x.old(year), 1);
        }
        PaintedOver x = Check.wall(TWO + "work h year 0 c 0,0 to 0,0;work h year 999 c 1,0 to 1,0");
        b.due("a work of the year 0", x.was(0, 0, 0), 0);
        b.due("a work of the year 999, in 998", x.was(1, 0, 998), BARE);
        b.due("a work of the year 999", x.was(1, 0, 999), 0);
    }

    /** The latest one's of that year or ahead. */
    private void yearOfAWork() {
        PaintedOver x = Check.wall(TWO + "work h year 10 c 0,0 to 0,0;work h year 20 f 0,0 to 0,0");
        b.due("in 9", x.was(0, 0, 9), BARE);
        b.due("in 10", x.was(0, 0, 10), 0);
        b.due("in 19", x.was(0, 0, 19), 0);
        b.due("in 20", x.was(0, 0, 20), 1);
    }

    /** FADED: fades isn't 0 and so many years are over since its year, or more. */
    private void fades() {
        PaintedOver x = Check.wall(TWO + "work h year 10 f 0,0 to 0,0,g 1,0 to 1,0;work h year 20 c 0,0 to 0,0");
        b.due("fades 5, in 10", x.was(0, 0, 10), 1);
        b.due("fades 5, in 14", x.was(0, 0, 14), 1);
        b.due("fades 5, in 15", x.was(0, 0, 15), BARE);
        b.due("fades 5, in 19", x.was(0, 0, 19), BARE);
        b.due("fades 1, in 10", x.was(1, 0, 10), 2);
        b.due("fades 1, in 11", x.was(1, 0, 11), BARE);
        b.due("fades 1, in 999", x.was(1, 0, 999), BARE);
        b.due("fades 0, in 20", x.was(0, 0, 20), 0);
        b.due("fades 0, in 999", x.was(0, 0, 999), 0);
        b.due("now nothing is faded", x.shows(1, 0), 2);
    }

    private void fadedOverOther() {
        PaintedOver x = Check.wall(TWO + "work h year 10 c 0,0 to 0,0,f 1,0 to 1,0;work h year 12 f 0,0 to 0,0,g 1,0 to 1,0");
        b.due("over what doesn't fade, in 16", x.was(0, 0, 16), 1);
        b.due("over what doesn't fade, in 17", x.was(0, 0, 17), 0);
        b.due("over what fades later, in 12", x.was(1, 0, 12), 2);
        b.due("over what fades later, in 13", x.was(1, 0, 13), 1);
        b.due("over what fades later, in 14", x.was(1, 0, 14), 1);
        b.due("over what fades later, in 15", x.was(1, 0, 15), BARE);
    }

    private void wasOfScraped() {
        PaintedOver x = Check.wall(TWO + "work h year 10 c 0,0 to 0,0;work h year 20 f 0,0 to 0,0");
        x.scrape(0, 0);
        b.due("scraped paint isn't there in its year", x.was(0, 0, 20), 0);
        x.scrape(0, 0);
        b.due("nor what lay below", x.was(0, 0, 20), BARE);
    }

    /** A DEPTH (0, 1, ..): -2 below them all; NONE: 2 (a DEPTH below 0). */
    private void depths() {
        Bounds.Start start = Bounds.wall(Bounds.WALL);
        b.asked("depth 0", start, x -> x.scraped(1, 0, 0), 1);
        b.asked("depth 1", start, x -> x.scraped(1, 0, 1), 0);
        b.asked("depth 2", start, x -> x.scraped(1, 0, 2), BARE);
        b.asked("the greatest depth", start, x -> x.scraped(1, 0, Integer.MAX_VALUE), BARE);
        b.asked("depth 0 of a bare cell", start, x -> x.scraped(2, 1, 0), BARE);
        b.refused("depth -1", start, x -> x.scraped(1, 0, -1), 2);
        b.refused("the least depth", start, x -> x.scraped(1, 0, Integer.MIN_VALUE), 2);
        b.refused("depth -1 of a bare cell", start, x -> x.scraped(2, 1, -1), 2);
        b.refused("depth -1 nowhere", start, x -> x.scraped(3, 0, -1), 1);
        PaintedOver x = Check.wall(TWO + "work h year 0 c 0,0 to 0,0;work h year 0 c 1,0 to 1,0;work h year 0 c 0,0 to 0,0");
        b.due("one that has no paint there isn't counted", x.scraped(0, 0, 1), 0);
        b.due("below both", x.scraped(0, 0, 2), BARE);
    }

    private void reliefOfAll() {
        StringBuilder text = new StringBuilder("wall wide 1 high 1 keeps 0 parts 0;colour t thick 9 fades 1 since 0;colour n thick 0 fades 0 since 0;hand h");
        for (int i = 0; i < 9; i++) {
            text.append(";work h year ").append(i).append(" t 0,0 to 0,0");
        }
        PaintedOver x = Check.wall(text.toString());
        b.due("relief of nine", x.relief(0, 0), 81);
        for (int i = 9; i < 12; i++) {
            x.begin(0, i);
            x.patch(i == 11 ? 1 : 0, 0, 0, 0, 0);
            b.due("relief isn't of the wet one", x.relief(0, 0), 9 * i);
            x.dry();
        }
        b.due("relief of twelve, one thick 0", x.relief(0, 0), 99);
        b.due("deep", x.deep(0, 0), 12);
        b.due("the deepest", x.scraped(0, 0, 11), 0);
        b.due("below it", x.scraped(0, 0, 12), BARE);
        x.scrape(0, 0);
        b.due("deep behind a scrape", x.deep(0, 0), 11);
    }

    /** Lit, if its RELIEF is more than that of the CELL left of it (0 beyond the wall). */
    private void light() {
        PaintedOver x = Check.wall(TWO_ROWS + "colour a thick 1 fades 0 since 0;colour d thick 9 fades 0 since 0;colour n thick 0 fades 0 since 0;hand h;"
            + "work h year 0 a 0,0 to 0,1,d 1,0 to 1,0,a 1,1 to 1,1");
        b.due("more than 0 beyond the wall", x.light(0, 0), 1);
        b.due("more than left of it", x.light(1, 0), 1);
        b.due("the row ahead doesn't shade", x.light(0, 1), 1);
        b.due("as much as left of it", x.light(1, 1), 0);
        x.scrape(0, 1);
        b.due("nothing, as beyond the wall", x.light(0, 1), 0);
        b.due("more than nothing left of it", x.light(1, 1), 1);
        x.scrape(1, 1);
        b.due("nothing beside nothing", x.light(1, 1), 0);
        PaintedOver thin = Check.wall(Bounds.ONE_CELL + "colour n thick 0 fades 0 since 0;hand h;work h year 0 n 0,0 to 0,0");
        b.due("paint that is thick 0", thin.light(0, 0), 0);
        PaintedOver less = Check.wall(TWO_ROWS + "colour a thick 1 fades 0 since 0;colour d thick 2 fades 0 since 0;hand h;work h year 0 d 0,0 to 0,0,a 1,0 to 1,0");
        b.due("less than left of it", less.light(1, 0), 0);
    }

    private void colours() {
        int[] none = {-1, -2, 2, 5, Integer.MIN_VALUE, Integer.MAX_VALUE};
        b.asked("area of the first colour", Bounds::busy, x -> x.area(0), 2);
        b.asked("area of the last colour", Bounds::busy, x -> x.area(1), 2);
        for (int colour : none) {
            b.refused("area of " + colour, Bounds::busy, x -> x.area(colour), 1);
        }
        b.refused("area without a book", PaintedOver::new, x -> x.area(0), 1);
        b.due("area of a colour that shows nowhere", Check.wall(TWO + "work h year 0 c 0,0 to 1,0").area(2), 0);
        b.due("area of the whole wall", Check.wall(TWO + "work h year 0 c 0,0 to 1,0").area(0), 2);
        b.due("area of a colour that is covered", Check.wall(TWO + "work h year 0 c 0,0 to 1,0;work h year 0 f 0,0 to 1,0").area(0), 0);
    }

    private void hands() {
        int[] none = {-1, -2, 2, 5, Integer.MIN_VALUE, Integer.MAX_VALUE};
        b.asked("share of the first hand", Bounds::busy, x -> x.share(0), 2);
        b.asked("share of the last hand", Bounds::busy, x -> x.share(1), 2);
        for (int hand : none) {
            b.refused("share of " + hand, Bounds::busy, x -> x.share(hand), 1);
        }
        b.refused("share without a book", PaintedOver::new, x -> x.share(0), 1);
        b.due("share of a hand without works", Check.wall(TWO + "hand i;work h year 0 c 0,0 to 1,0").share(1), 0);
        b.due("share of a hand covered by itself", Check.wall(TWO + "work h year 0 c 0,0 to 1,0;work h year 0 f 0,0 to 1,0").share(0), 2);
    }

    /** Paint of a year or ahead of it, by what shows. */
    private void years() {
        int[] years = {9, 10, 24, 25, 26};
        int[] cells = {0, 3, 3, 5, 5};
        for (int i = 0; i < years.length; i++) {
            int year = years[i];
            b.asked("old in " + year, Bounds.wall(Bounds.WALL), x -> x.old(year), cells[i]);
        }
        b.due("old of a bare wall", Check.wall(Bounds.ONE_CELL + "hand h").old(999), 0);
        b.due("old of what is covered", Check.wall(TWO + "work h year 1 c 0,0 to 1,0;work h year 2 c 0,0 to 0,0").old(1), 1);
        b.due("old of faded paint", Check.wall(TWO + "work h year 1 g 0,0 to 1,0").old(999), 2);
    }

    /** The first year from that of the latest WORK on in which a CELL SHOWS else than it SHOWS in that. */
    private void changesFromTheLatestOn() {
        String ten = TWO + "work h year 10 f 0,0 to 0,0;";
        b.asked("fades behind the latest year", Bounds.wall(ten + "work h year 14 c 1,0 to 1,0"), x -> x.changes(0, 0), 15);
        b.asked("fades in the latest year", Bounds.wall(ten + "work h year 15 c 1,0 to 1,0"), x -> x.changes(0, 0), BARE);
        b.asked("never fades", Bounds.wall(ten + "work h year 15 c 1,0 to 1,0"), x -> x.changes(1, 0), BARE);
        b.asked("the one year fades", Bounds.wall(TWO + "work h year 10 g 0,0 to 0,0"), x -> x.changes(0, 0), 11);
        b.asked("another colour comes up", Bounds.wall(TWO + "work h year 9 c 0,0 to 0,0;work h year 10 g 0,0 to 0,0"), x -> x.changes(0, 0), 11);
        b.asked("the same colour below fades ahead of it", Bounds.wall(TWO + "work h year 9 f 0,0 to 0,0;work h year 10 f 0,0 to 0,0"),
            x -> x.changes(0, 0), 15);
        PaintedOver x = Check.wall(TWO + "work h year 10 f 0,0 to 0,0");
        x.begin(0, 15);
        b.due("the wet one's year isn't looked at", x.changes(0, 0), 15);
        x.dry();
        b.due("the year of a work without paint is", x.changes(0, 0), BARE);
    }

    /** 0 .. 999. */
    private void changesInTheLastYear() {
        String line = "wall wide 1 high 1 keeps 0 parts 0;colour c thick 0 fades 999 since 0;colour g thick 0 fades 1 since 0;hand h;";
        b.due("fades in 999", Check.wall(line + "work h year 0 c 0,0 to 0,0").changes(0, 0), 999);
        b.due("fades in 1000", Check.wall(line + "work h year 1 c 0,0 to 0,0").changes(0, 0), BARE);
        b.due("of 998, fades in 999", Check.wall(line + "work h year 998 g 0,0 to 0,0").changes(0, 0), 999);
        b.due("of 999, fades in 1000", Check.wall(line + "work h year 999 g 0,0 to 0,0").changes(0, 0), BARE);
    }

    private void changesWithoutWorks() {
        b.asked("without works", Bounds.wall(TWO + "hand i"), x -> x.changes(0, 0), BARE);
        PaintedOver x = Check.wall(TWO + "hand i");
        x.begin(0, 3);
        x.patch(2, 0, 0, 0, 0);
        b.due("with a wet one alone", x.changes(0, 0), BARE);
        x.dry();
        b.due("with a work", x.changes(0, 0), 4);
        x.undo();
        b.due("with none again", x.changes(0, 0), BARE);
    }

    /** A WORK that is begun is wet; it SHOWS nowhere, till it is DRY. */
    private void wetShowsNowhere() {
        PaintedOver x = Check.wall(TWO + "want c 0,0 to 0,0");
        x.begin(0, 3);
        x.patch(0, 0, 0, 0, 0);
        b.due("shows", x.shows(0, 0), BARE);
        b.due("whose", x.whose(0, 0), BARE);
        b.due("was", x.was(0, 0, 3), BARE);
        b.due("scraped", x.scraped(0, 0, 0), BARE);
        b.due("deep", x.deep(0, 0), 0);
        b.due("relief", x.relief(0, 0), 0);
        b.due("light", x.light(0, 0), 0);
        b.due("area", x.area(0), 0);
        b.due("share", x.share(0), 0);
        b.due("old", x.old(999), 0);
        b.due("alike", x.alike(), 0);
        b.due("led", Check.ledOrNone(x, 0), 0);
        b.due("best", x.best(3, 1), 1);
        x.dry();
        b.due("shows when dry", x.shows(0, 0), 0);
        b.due("deep when dry", x.deep(0, 0), 1);
        b.due("alike when dry", x.alike(), 1);
        b.due("led when dry", Check.ledOrNone(x, 0), 1);
        b.due("best when dry", x.best(3, 1), 0);
    }
}
