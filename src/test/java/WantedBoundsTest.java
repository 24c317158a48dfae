/** Promises 28 to 35 at their bounds: what is wanted, and what works to come can bring of it. */
public final class WantedBoundsTest {
    private static final int BARE = Bounds.BARE;
    private static final String C = "colour c thick 0 fades 0 since 0;";
    private static final String C_OF_5 = "colour c thick 0 fades 0 since 5;";
    private static final String HAND = "hand h;";
    private static final int[] NO_YEAR = {-1, 1000, Integer.MIN_VALUE, Integer.MAX_VALUE};
    private static final int[] NONE_SUCH = {-1, 4, Integer.MIN_VALUE, Integer.MAX_VALUE};

    private final Bounds b = new Bounds();

    private interface In {
        long on(PaintedOver x, int year);
    }

    public static void main(String[] args) {
        WantedBoundsTest test = new WantedBoundsTest();
        test.wantedCells();
        test.alike();
        test.yearsToCome();
        test.twelveCells();
        test.moreThanTwelveCells();
        test.whatOfBest();
        test.fewestThenLeastBits();
        test.paintingNothingToo();
        test.coloursComeUp();
        test.withoutAnyColour();
        test.anotherColourWhereTheWantedHadnt();
        test.bestKeepsEnough();
        test.bestKeepsTheParts();
        test.contractsInTheYear();
        test.bestByWhatShowsNow();
        test.needOfNothing();
        test.needThatCantBe();
        test.mostWorksOfNeed();
        test.stepsFromFirstToLast();
        test.stepsAreTheLeastBits();
        test.needFollowsActs();
        test.reachOfAnyNumber();
        test.leastOfOneMore();
        test.numbersOfContracts();
        test.freedOfOne();
        test.b.end("WantedBoundsTest");
    }

    private static String wall(int wide, int high, int keeps, int parts) {
        return "wall wide " + wide + " high " + high + " keeps " + keeps + " parts " + parts + ";";
    }

    private void best(String text, int year, int alike, int many, int bits) {
        b.asked("best(" + year + ", 0) of " + text, Bounds.wall(text), x -> x.best(year, 0), alike);
        b.asked("best(" + year + ", 1) of " + text, Bounds.wall(text), x -> x.best(year, 1), many);
        b.asked("best(" + year + ", 2) of " + text, Bounds.wall(text), x -> x.best(year, 2), bits);
    }

    private void steps(String text, int year, int... cells) {
        b.asked("need(" + year + ") of " + text, Bounds.wall(text), x -> x.need(year), cells.length);
        for (int i = 0; i < cells.length; i++) {
            int turn = i;
            b.asked("step(" + year + ", " + i + ") of " + text, Bounds.wall(text), x -> x.step(year, turn), cells[i]);
        }
        b.refused("the step behind the last of " + text, Bounds.wall(text), x -> x.step(year, cells.length), 1);
    }

    private void cantBe(String text, int year) {
        b.asked("need(" + year + ") of " + text, Bounds.wall(text), x -> x.need(year), BARE);
        b.refused("step(" + year + ", 0) of " + text, Bounds.wall(text), x -> x.step(year, 0), 6);
    }

    private void reach(String text, int year, int alike) {
        b.asked("reach(" + year + ") of " + text, Bounds.wall(text), x -> x.reach(year), alike);
    }

    private void least(String text, int w, int year, int cells) {
        b.asked("least(" + w + ", " + year + ") of " + text, Bounds.wall(text), x -> x.least(w, year), cells);
    }

    private void freed(String text, int contract, int year, int more) {
        b.asked("freed(" + contract + ", " + year + ") of " + text, Bounds.wall(text), x -> x.freed(contract, year), more);
    }

    /** CELLS of want, each by its latest PATCH's colour. */
    private void wantedCells() {
        String text = wall(3, 1, 0, 0) + C + "colour d thick 0 fades 0 since 0;" + HAND;
        Bounds.Start start = Bounds.wall(text + "want c 0,0 to 1,0,d 1,0 to 1,0");
        b.asked("by the first patch", start, x -> x.wanted(0, 0), 0);
        b.asked("by the latest patch", start, x -> x.wanted(1, 0), 1);
        b.asked("by none", start, x -> x.wanted(2, 0), BARE);
        b.due("cells wanted", start.make().size(8), 2);
        b.asked("where nothing is wanted", Bounds.wall(text + "hand i"), x -> x.wanted(0, 0), BARE);
        b.due("no cells wanted", Check.wall(text + "hand i").size(8), 0);
        b.due("all of 24", Check.wall(wall(6, 4, 0, 0) + C + "want c 0,0 to 5,3").size(8), 24);
    }

    /** How many of these SHOW that. */
    private void alike() {
        String text = wall(3, 1, 0, 0) + C + "colour d thick 0 fades 1 since 0;" + HAND + "want c 0,0 to 0,0,d 1,0 to 1,0;work h year 3 ";
        b.asked("both", Bounds.wall(text + "c 0,0 to 0,0,d 1,0 to 1,0"), x -> x.alike(), 2);
        b.asked("all, one not wanted", Bounds.wall(text + "c 0,0 to 2,0"), x -> x.alike(), 1);
        b.asked("none", Bounds.wall(text + "d 0,0 to 0,0,c 1,0 to 1,0"), x -> x.alike(), 0);
        b.asked("covered", Bounds.wall(text + "c 0,0 to 0,0;work h year 3 d 0,0 to 0,0"), x -> x.alike(), 0);
        b.asked("nothing is wanted", Bounds.wall(wall(3, 1, 0, 0) + C + HAND + "work h year 0 c 0,0 to 2,0"), x -> x.alike(), 0);
        b.refused("without a book", PaintedOver::new, PaintedOver::alike, 1);
    }

    /** A year (0 .. 999): NONE, 1 ahead of 2. */
    private void year(String name, In call, int inFirst, int inLast) {
        b.asked(name + " in 0", Bounds::busy, x -> call.on(x, 0), inFirst);
        b.asked(name + " in 999", Bounds::busy, x -> call.on(x, 999), inLast);
        for (int year : NO_YEAR) {
            b.refused(name + " in " + year, Bounds::busy, x -> call.on(x, year), 2);
            b.refused(name + " without a book in " + year, PaintedOver::new, x -> call.on(x, year), 1);
        }
        b.refused(name + " without a book", PaintedOver::new, x -> call.on(x, 0), 1);
    }

    private void yearsToCome() {
        year("best 0", (x, year) -> x.best(year, 0), 2, 3);
        year("best 1", (x, year) -> x.best(year, 1), 1, 2);
        year("best 2", (x, year) -> x.best(year, 2), 32, 33);
        year("need", PaintedOver::need, BARE, 1);
        year("reach", PaintedOver::reach, 2, 3);
        year("least", (x, year) -> x.least(0, year), 0, 0);
        year("freed", (x, year) -> x.freed(0, year), 0, 0);
        b.asked("step in 999", Bounds::busy, x -> x.step(999, 0), 33);
        for (int year : NO_YEAR) {
            b.refused("step in " + year, Bounds::busy, x -> x.step(year, 0), 2);
            b.refused("step -1 in " + year, Bounds::busy, x -> x.step(year, -1), 1);
            b.refused("step without a book in " + year, PaintedOver::new, x -> x.step(year, 0), 1);
            b.refused("best 3 in " + year, Bounds::busy, x -> x.best(year, 3), 1);
            b.refused("least of none in " + year, Bounds::busy, x -> x.least(2, year), 1);
            b.refused("freed of none in " + year, Bounds::busy, x -> x.freed(1, year), 1);
        }
    }

    /** For walls of 12 CELLS at most. */
    private void twelveCells() {
        int[][] walls = {{6, 2}, {4, 3}, {3, 4}};
        for (int[] wall : walls) {
            String text = wall(wall[0], wall[1], 0, 0) + C + HAND + "want c 0,0 to " + (wall[0] - 1) + "," + (wall[1] - 1)
                + ";work h year 0 c 0,0 to 1,0;contract 0,0 to 0,0 from 0 until 9;contract 2,0 to 2,0 from 0 until 9";
            best(text, 0, 11, 9, 4095 & ~7);
            best(text, 10, 12, 10, 4095 & ~3);
            cantBe(text, 0);
            steps(text, 10, 4095 & ~3);
            reach(text, 0, 11);
            reach(text, 10, 12);
            least(text, 0, 0, 1);
            least(text, 0, 10, 0);
            freed(text, 0, 0, 0);
            freed(text, 1, 0, 1);
        }
    }

    /** Else they are refused (3), behind 1 and 2. */
    private void moreThanTwelveCells() {
        int[][] walls = {{5, 3}, {4, 4}, {6, 3}, {5, 4}, {6, 4}};
        for (int[] wall : walls) {
            Bounds.Start start = Bounds.wall(wall(wall[0], wall[1], 0, 0) + C + HAND
                + "work h year 0 c 0,0 to 1,0;contract 0,0 to 0,0 from 0 until 9");
            String name = wall[0] + " by " + wall[1];
            b.refused("best, " + name, start, x -> x.best(0, 0), 3);
            b.refused("need, " + name, start, x -> x.need(0), 3);
            b.refused("step, " + name, start, x -> x.step(0, 0), 3);
            b.refused("reach, " + name, start, x -> x.reach(0), 3);
            b.refused("least, " + name, start, x -> x.least(0, 0), 3);
            b.refused("freed, " + name, start, x -> x.freed(0, 0), 3);
            b.refused("best in 1000, " + name, start, x -> x.best(1000, 0), 2);
            b.refused("need in 1000, " + name, start, x -> x.need(1000), 2);
            b.refused("step in 1000, " + name, start, x -> x.step(1000, 0), 2);
            b.refused("reach in 1000, " + name, start, x -> x.reach(1000), 2);
            b.refused("least in 1000, " + name, start, x -> x.least(0, 1000), 2);
            b.refused("freed in 1000, " + name, start, x -> x.freed(0, 1000), 2);
            b.refused("best 3, " + name, start, x -> x.best(0, 3), 1);
            b.refused("step -1, " + name, start, x -> x.step(0, -1), 1);
            b.refused("least of none, " + name, start, x -> x.least(1, 0), 1);
            b.refused("freed of none, " + name, start, x -> x.freed(1, 0), 1);
        }
    }

    private void whatOfBest() {
        b.asked("what 0", Bounds::busy, x -> x.best(30, 0), 2);
        b.asked("what 2", Bounds::busy, x -> x.best(30, 2), 32);
        int[] none = {-1, 3, Integer.MIN_VALUE, Integer.MAX_VALUE};
        for (int what : none) {
            b.refused("what " + what, Bounds::busy, x -> x.best(30, what), 1);
            b.refused("what " + what + " without a book", PaintedOver::new, x -> x.best(30, what), 1);
        }
    }

    /** Of like ones which paints fewest CELLS, then the least bits. */
    private void fewestThenLeastBits() {
        best(wall(4, 1, 2, 1) + C + "want c 1,0 to 1,0,c 3,0 to 3,0", 0, 1, 1, 8);
        best(wall(3, 1, 2, 0) + C + "want c 1,0 to 2,0", 0, 1, 1, 2);
        best(wall(4, 1, 0, 1) + C + "want c 1,0 to 1,0", 0, 1, 2, 3);
        best(wall(4, 1, 2, 1) + C + "want c 1,0 to 2,0", 0, 1, 2, 3);
        best(wall(2, 2, 2, 0) + C + "want c 0,0 to 1,1", 0, 2, 2, 3);
        best(wall(2, 2, 2, 1) + C + "want c 0,1 to 0,1,c 1,0 to 1,0", 0, 1, 1, 2);
    }

    /** JUDGED 0 in that year (painting nothing, too). */
    private void paintingNothingToo() {
        best(wall(3, 1, 0, 0) + C + HAND + "want c 0,0 to 0,0;work h year 0 c 0,0 to 0,0", 0, 1, 0, 0);
        best(wall(3, 1, 3, 1) + C + "want c 0,0 to 2,0", 0, 0, 0, 0);
        best(wall(3, 1, 0, 0) + C + "hand h", 0, 0, 0, 0);
    }

    /** Colours that had come up: since their year. */
    private void coloursComeUp() {
        String text = wall(2, 1, 0, 0) + C_OF_5 + HAND + "want c 0,0 to 0,0;work h year 9 c 1,0 to 1,0";
        best(text, 4, 0, 0, 0);
        best(text, 5, 1, 1, 1);
        cantBe(text, 4);
        steps(text, 5, 1);
        reach(text, 4, 0);
        reach(text, 5, 1);
        least(text, 0, 4, 1);
        least(text, 0, 5, 0);
        String last = wall(1, 1, 0, 0) + "colour c thick 0 fades 0 since 999;want c 0,0 to 0,0";
        best(last, 998, 0, 0, 0);
        best(last, 999, 1, 1, 1);
    }

    /** Without any: none can be painted. */
    private void withoutAnyColour() {
        String text = wall(2, 1, 0, 0) + C_OF_5 + "colour d thick 0 fades 0 since 7;" + HAND
            + "want c 0,0 to 0,0,d 1,0 to 1,0;work h year 9 d 0,0 to 1,0;contract 0,0 to 0,0 from 4 until 6";
        best(text, 4, 1, 0, 0);
        freed(text, 0, 4, 0);
        freed(text, 0, 5, 1);
        reach(text, 4, 1);
        least(text, 0, 4, 2);
        least(text, 0, 5, 1);
        least(text, 0, 7, 0);
        best(wall(2, 1, 0, 0) + "hand h", 999, 0, 0, 0);
        steps(wall(2, 1, 0, 0) + "hand h", 999);
        reach(wall(2, 1, 0, 0) + "hand h", 999, 0);
    }

    /** Any of them where none is WANTED or the one WANTED hadn't. */
    private void anotherColourWhereTheWantedHadnt() {
        String text = wall(3, 1, 0, 1) + C + "colour d thick 0 fades 0 since 5;" + HAND + "want d 0,0 to 0,0,c 1,0 to 1,0;work h year 9 d 0,0 to 0,0;";
        best(text + "contract 2,0 to 2,0 from 0 until 9", 4, 1, 0, 0);
        best(text + "contract 2,0 to 2,0 from 0 until 9", 5, 2, 2, 3);
        cantBe(text + "contract 2,0 to 2,0 from 0 until 9", 4);
        steps(text + "contract 2,0 to 2,0 from 0 until 9", 5, 3);
        best(text + "contract 0,0 to 0,0 from 0 until 9", 4, 2, 2, 6);
        steps(text + "contract 0,0 to 0,0 from 0 until 9", 4, 6);
        steps(text + "hand i", 4, 6);
        least(text + "hand i", 0, 4, 0);
        reach(text + "contract 2,0 to 2,0 from 0 until 9", 4, 1);
        cantBe(wall(1, 1, 0, 0) + C + "colour d thick 0 fades 0 since 5;want d 0,0 to 0,0", 4);
    }

    private void bestKeepsEnough() {
        String line = C + HAND + "want c 0,0 to 2,0;work h year 0 c 0,0 to 0,0";
        best(wall(3, 1, 1, 0) + line, 0, 3, 2, 6);
        best(wall(3, 1, 2, 0) + line, 0, 2, 1, 2);
        best(wall(3, 1, 3, 0) + line, 0, 1, 0, 0);
        steps(wall(3, 1, 1, 0) + line, 0, 6);
        steps(wall(3, 1, 2, 0) + line, 0, 2, 4);
        cantBe(wall(3, 1, 3, 0) + line, 0);
        reach(wall(3, 1, 2, 0) + line, 0, 3);
        reach(wall(3, 1, 3, 0) + line, 0, 1);
        least(wall(3, 1, 2, 0) + line, 0, 0, 0);
        least(wall(3, 1, 3, 0) + line, 0, 0, 1);
    }

    private void bestKeepsTheParts() {
        String line = C + HAND + "want c 1,0 to 1,0,c 3,0 to 3,0;work h year 0 c 2,0 to 2,0;contract 0,0 to 0,0 from 0 until 9;contract 4,0 to 4,0 from 0 until 9";
        best(wall(5, 1, 0, 3) + line, 0, 2, 2, 10);
        best(wall(5, 1, 0, 2) + line, 0, 2, 3, 14);
        best(wall(5, 1, 0, 1) + line, 0, 0, 0, 0);
        best(wall(5, 1, 0, 0) + line, 0, 2, 2, 10);
        steps(wall(5, 1, 0, 3) + line, 0, 10);
        steps(wall(5, 1, 0, 2) + line, 0, 14);
        steps(wall(5, 1, 3, 2) + line, 0, 2, 8);
        cantBe(wall(5, 1, 0, 1) + line, 0);
        reach(wall(5, 1, 3, 2) + line, 0, 2);
        reach(wall(5, 1, 0, 1) + line, 0, 0);
        least(wall(5, 1, 0, 2) + line, 0, 0, 0);
        least(wall(5, 1, 0, 1) + line, 0, 0, 1);
    }

    /** Contracts hold from .. until. */
    private void contractsInTheYear() {
        String text = wall(2, 1, 0, 0) + C + HAND + "want c 0,0 to 1,0;contract 0,0 to 0,0 from 3 until 6;work h year 0 c 0,0 to 0,0;work h year 0 c 0,0 to 0,0";
        String bare = wall(2, 1, 0, 0) + C + HAND + "want c 0,0 to 1,0;contract 0,0 to 0,0 from 3 until 6";
        int[] years = {2, 3, 6, 7};
        for (int year : years) {
            boolean bound = year == 3 || year == 6;
            best(bare, year, bound ? 1 : 2, bound ? 1 : 2, bound ? 2 : 3);
            reach(bare, year, bound ? 1 : 2);
            freed(bare, 0, year, bound ? 1 : 0);
            least(text, 1, year, bound ? 1 : 0);
            if (bound) {
                cantBe(bare, year);
            } else {
                steps(bare, year, 3);
            }
            steps(text, year, 2);
        }
    }

    /** By what SHOWS now: not the year's, nor what fades. */
    private void bestByWhatShowsNow() {
        String text = wall(2, 1, 0, 0) + "colour c thick 0 fades 1 since 0;" + HAND + "want c 0,0 to 1,0;work h year 9 c 0,0 to 0,0";
        int[] years = {0, 9, 10, 999};
        for (int year : years) {
            best(text, year, 2, 1, 2);
            steps(text, year, 2);
            reach(text, year, 2);
            least(text, 0, year, 0);
        }
    }

    /** NEED: 0 if they are. */
    private void needOfNothing() {
        steps(wall(2, 1, 2, 0) + C + "hand h", 0);
        steps(wall(2, 1, 2, 0) + C_OF_5 + HAND + "want c 0,0 to 1,0;work h year 0 c 0,0 to 1,0", 0);
        b.refused("no step at all", Bounds.wall(wall(1, 1, 0, 0) + "hand h"), x -> x.step(0, 0), 1);
    }

    private void needThatCantBe() {
        cantBe(wall(2, 1, 2, 0) + C + "want c 0,0 to 1,0", 0);
        cantBe(wall(2, 1, 0, 0) + C_OF_5 + C.replace(" c ", " d ") + "want c 0,0 to 0,0", 4);
        cantBe(wall(2, 1, 0, 0) + C + "want c 0,0 to 1,0;contract 1,0 to 1,0 from 0 until 0", 0);
        steps(wall(2, 1, 0, 0) + C + "want c 0,0 to 1,0;contract 1,0 to 1,0 from 0 until 0", 1, 3);
        int[] far = {1, 11, 12, 13, Integer.MAX_VALUE};
        for (int i : far) {
            b.refused("step " + i + " of none", Bounds.wall(wall(2, 1, 2, 0) + C + "want c 0,0 to 1,0"), x -> x.step(0, i), 6);
        }
    }

    private void mostWorksOfNeed() {
        int[] singles = new int[12];
        for (int i = 0; i < 12; i++) {
            singles[i] = 1 << i;
        }
        steps(wall(6, 2, 11, 0) + C + "want c 0,0 to 5,1", 0, singles);
    }

    private void stepsFromFirstToLast() {
        Bounds.Start two = Bounds.wall(wall(2, 1, 1, 0) + C + "want c 0,0 to 1,0");
        b.asked("step 0 of 2", two, x -> x.step(0, 0), 1);
        b.asked("step 1 of 2", two, x -> x.step(0, 1), 2);
        b.refused("step 2 of 2", two, x -> x.step(0, 2), 1);
        int[] none = {-1, 3, 12, Integer.MIN_VALUE, Integer.MAX_VALUE};
        for (int i : none) {
            b.refused("step " + i + " of 2", two, x -> x.step(0, i), 1);
        }
        b.refused("step -1 where NEED can't be", Bounds.wall(wall(2, 1, 2, 0) + C + "want c 0,0 to 1,0"), x -> x.step(0, -1), 1);
        b.refused("step -1 without a book", PaintedOver::new, x -> x.step(0, -1), 1);
        b.refused("step without a book", PaintedOver::new, x -> x.step(0, 0), 1);
    }

    /** Each the least bits of CELLS by which the others still can follow. */
    private void stepsAreTheLeastBits() {
        steps(wall(4, 1, 2, 0) + C + "want c 0,0 to 2,0", 0, 1, 6);
        steps(wall(4, 1, 2, 0) + C + "want c 0,0 to 3,0", 0, 3, 12);
        steps(wall(3, 1, 1, 1) + C + "want c 0,0 to 0,0,c 2,0 to 2,0", 0, 5);
        steps(wall(4, 1, 2, 1) + C + "want c 1,0 to 2,0", 0, 3, 12);
        steps(wall(4, 1, 1, 1) + C + "want c 1,0 to 2,0", 0, 7);
        steps(wall(4, 1, 0, 0) + C + HAND + "want c 1,0 to 2,0;work h year 0 c 1,0 to 1,0", 0, 4);
    }

    /** What is asked is asked of the wall as it is: when less lacks, more lacks, another year is asked. */
    private void needFollowsActs() {
        PaintedOver x = Check.wall(wall(4, 1, 2, 0) + C + HAND + "want c 0,0 to 3,0;contract 3,0 to 3,0 from 5 until 6;work h year 0 c 0,0 to 1,0");
        b.due("need of two cells", x.need(0), 1);
        b.due("step of two cells", x.step(0, 0), 12);
        x.scrape(0, 0);
        b.due("need of three cells", x.need(0), 2);
        b.due("step of three cells", x.step(0, 0), 1);
        x.scrape(1, 0);
        b.due("need of four cells", x.need(0), 2);
        b.due("step of four cells", x.step(0, 0), 3);
        b.due("need where one is bound", x.need(5), BARE);
        b.due("need where none is bound", x.need(7), 2);
        b.due("need where one is bound, again", x.need(6), BARE);
        b.due("freed between", x.freed(0, 5), 0);
        b.due("need behind freed", x.need(5), BARE);
        x.undo();
        x.undo();
        b.due("need when undone", x.need(0), 1);
        b.due("best when undone", x.best(0, 2), 12);
        b.due("reach when undone", x.reach(5), 3);
        x.begin(0, 0);
        x.patch(0, 0, 0, 0, 0);
        x.patch(0, 2, 0, 2, 0);
        x.dry();
        b.due("need of the fourth", x.need(0), 1);
        b.due("step of the fourth", x.step(0, 0), 8);
        b.due("the step behind it", x.step(0, 1), Bounds.NONE);
    }

    /** REACH: the most that can be ALIKE by such WORKS, any number of them. */
    private void reachOfAnyNumber() {
        reach(wall(6, 2, 11, 0) + C + "want c 0,0 to 5,1", 0, 12);
        reach(wall(6, 2, 12, 0) + C + "want c 0,0 to 5,1", 0, 0);
        reach(wall(6, 2, 0, 0) + C + HAND + "hand i", 0, 0);
        String spoil = wall(3, 1, 1, 1) + C + "colour d thick 0 fades 0 since 5;" + HAND + "want d 0,0 to 0,0,c 1,0 to 1,0,d 2,0 to 2,0;"
            + "work h year 9 d 0,0 to 0,0";
        reach(spoil, 4, 2);
        reach(spoil + ",d 2,0 to 2,0", 4, 2);
        reach(spoil, 5, 3);
    }

    /** By how many CELLS it SHOWS at least behind one more WORK. */
    private void leastOfOneMore() {
        String all = C + HAND + "work h year 0 c 0,0 to 3,0";
        least(wall(4, 1, 0, 0) + all, 0, 0, 0);
        least(wall(4, 1, 1, 0) + all, 0, 0, 1);
        least(wall(4, 1, 4, 0) + all, 0, 0, 4);
        least(wall(4, 1, 0, 0) + all + ";work h year 0 c 0,0 to 3,0", 0, 0, 0);
        least(wall(4, 1, 4, 0) + all + ";work h year 0 c 1,0 to 2,0", 0, 0, 2);
        least(wall(4, 1, 3, 0) + all + ";work h year 0 c 1,0 to 2,0", 0, 0, 1);
        least(wall(4, 1, 3, 0) + all + ";work h year 0 c 1,0 to 2,0", 1, 0, 1);
        least(wall(4, 1, 3, 1) + all + ";work h year 0 c 1,0 to 2,0", 1, 0, 2);
        PaintedOver x = Check.wall(wall(4, 1, 4, 0) + C + HAND + "work h year 0 c 0,0 to 0,0");
        x.scrape(0, 0);
        b.due("least of a work without paint", x.least(0, 0), 0);
    }

    private void numbersOfContracts() {
        StringBuilder text = new StringBuilder(wall(4, 1, 0, 0) + C + "want c 0,0 to 3,0");
        for (int i = 0; i < 4; i++) {
            text.append(";contract ").append(i).append(",0 to ").append(i).append(",0 from ").append(i).append(" until ").append(i);
        }
        Bounds.Start four = Bounds.wall(text.toString());
        for (int i = 0; i < 4; i++) {
            int contract = i;
            b.asked("freed of " + i, four, x -> x.freed(contract, contract), 1);
            b.asked("freed of " + i + " in another year", four, x -> x.freed(contract, 9), 0);
        }
        for (int contract : NONE_SUCH) {
            b.refused("freed of " + contract, four, x -> x.freed(contract, 0), 1);
        }
        b.refused("freed of a book without contracts", Bounds.wall(wall(1, 1, 0, 0) + C + "want c 0,0 to 0,0"), x -> x.freed(0, 0), 1);
        b.refused("freed without a book", PaintedOver::new, x -> x.freed(0, 0), 1);
    }

    /** How many more were ALIKE by BEST without it. */
    private void freedOfOne() {
        String text = wall(3, 1, 0, 0) + C + "want c 0,0 to 2,0;contract 0,0 to 1,0 from 0 until 9;contract 1,0 to 1,0 from 0 until 9";
        freed(text, 0, 0, 1);
        freed(text, 1, 0, 0);
        freed(text.replace(" until 9;", " until 9;contract 0,0 to 2,0 from 8 until 8;"), 0, 7, 1);
        freed(text.replace(" until 9;", " until 9;contract 0,0 to 2,0 from 8 until 8;"), 1, 8, 1);
        PaintedOver x = Check.wall(text);
        b.due("best ahead of freed", x.best(0, 0), 1);
        b.due("freed", x.freed(0, 0), 1);
        b.due("best behind freed", x.best(0, 0), 1);
        b.due("need behind freed", x.need(0), BARE);
        b.due("reach behind freed", x.reach(0), 1);
    }
}
