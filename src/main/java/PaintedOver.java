import java.util.Arrays;
import java.util.NoSuchElementException;

/**
 * A wall of cells, painted over and over: a BOOK is read from THE TAPE, then
 * asked what shows, whose works those are, what is wanted, and painted on.
 * The words in capitals are those of the document's Terms.
 */
public final class PaintedOver {
    public static final int NONE = -1;

    private static final int BARE = -2;

    private static final int TAPE_BYTES = 900;
    private static final int FED_BYTES = 20;

    private static final int MOST_CELLS = 24;
    private static final int MOST_WORKS = 12;
    private static final int MOST_BOOK_WORKS = 9;
    private static final int MOST_PATCHES = 4;
    private static final int MOST_NAMES = 5;
    private static final int MOST_CONTRACTS = 4;
    private static final int MOST_UNDONE = 8;
    private static final int MOST_IMAGES = 3;
    private static final int LAST_YEAR = 999;
    private static final int PLANNED_CELLS = 12;

    private static final int NOT_REFUSED = 0;
    private static final int NONE_SUCH = 1;
    private static final int A_NUMBER = 2;
    private static final int NO_ROOM = 3;
    private static final int A_FAULT = 4;
    private static final int NOT_SO = 5;
    private static final int THERE_IS_NONE = 6;

    private final byte[] tape = new byte[TAPE_BYTES];
    private int taped;
    private final Reader reader = new Reader();
    private Book book = new Book();
    private Works works = new Works();
    private final Past past = new Past();
    private final Works[] images = new Works[MOST_IMAGES];
    private int imagesKept;
    private final Orders sequence = new Orders();
    private final Plan plan = new Plan();
    private int latestTrouble;

    public PaintedOver() {
        for (int i = 0; i < MOST_IMAGES; i++) {
            images[i] = new Works();
        }
    }

    // ---- the book

    public int feed(int a, int b, int c, int d, int e) {
        if (taped > TAPE_BYTES - FED_BYTES) {
            return NONE;
        }
        tapeNumber(a);
        tapeNumber(b);
        tapeNumber(c);
        tapeNumber(d);
        tapeNumber(e);
        return taped;
    }

    public int book(int n) {
        if (n < 0 || n > taped) {
            return refuse(A_NUMBER);
        }
        taped = 0;
        reader.readBook(tape, n);
        if (reader.fault != 0) {
            return refuse(A_FAULT);
        }
        takeBook();
        return accept(works.count);
    }

    public int fault() {
        return reader.fault;
    }

    public int where() {
        return latestTrouble == A_FAULT ? reader.place : NONE;
    }

    // ---- what shows

    public int shows(int x, int y) {
        if (!book.hasCell(x, y)) {
            return refuse(NONE_SUCH);
        }
        return accept(works.shownAt(book.cellAt(x, y)));
    }

    public int whose(int x, int y) {
        if (!book.hasCell(x, y)) {
            return refuse(NONE_SUCH);
        }
        return accept(works.shownHandAt(book.cellAt(x, y)));
    }

    public int was(int x, int y, int year) {
        if (!book.hasCell(x, y)) {
            return refuse(NONE_SUCH);
        }
        if (!isYear(year)) {
            return refuse(A_NUMBER);
        }
        return accept(colourIn(book.cellAt(x, y), year));
    }

    public int scraped(int x, int y, int depth) {
        if (!book.hasCell(x, y)) {
            return refuse(NONE_SUCH);
        }
        if (depth < 0) {
            return refuse(A_NUMBER);
        }
        return accept(works.below(book.cellAt(x, y), depth));
    }

    public int deep(int x, int y) {
        if (!book.hasCell(x, y)) {
            return refuse(NONE_SUCH);
        }
        return accept(works.layersAt(book.cellAt(x, y)));
    }

    public int relief(int x, int y) {
        if (!book.hasCell(x, y)) {
            return refuse(NONE_SUCH);
        }
        return accept(thickAt(x, y));
    }

    public int light(int x, int y) {
        if (!book.hasCell(x, y)) {
            return refuse(NONE_SUCH);
        }
        return accept(thickAt(x, y) > thickAt(x - 1, y) ? 1 : 0);
    }

    public int area(int colour) {
        if (!book.hasColour(colour)) {
            return refuse(NONE_SUCH);
        }
        int found = 0;
        for (int cell = 0; cell < book.cells(); cell++) {
            if (works.shownAt(cell) == colour) {
                found++;
            }
        }
        return accept(found);
    }

    public int share(int hand) {
        if (!book.hasHand(hand)) {
            return refuse(NONE_SUCH);
        }
        int found = 0;
        for (int cell = 0; cell < book.cells(); cell++) {
            if (works.shownHandAt(cell) == hand) {
                found++;
            }
        }
        return accept(found);
    }

    public int old(int year) {
        if (!book.isTold()) {
            return refuse(NONE_SUCH);
        }
        if (!isYear(year)) {
            return refuse(A_NUMBER);
        }
        int found = 0;
        for (int cell = 0; cell < book.cells(); cell++) {
            int top = works.below(cell, 0);
            if (top != BARE && works.yearOf(top) <= year) {
                found++;
            }
        }
        return accept(found);
    }

    public int changes(int x, int y) {
        if (!book.hasCell(x, y)) {
            return refuse(NONE_SUCH);
        }
        return accept(firstChange(book.cellAt(x, y)));
    }

    // ---- works

    public int work(int w, int what) {
        if (!works.has(w) || what < 0 || what > 4) {
            return refuse(NONE_SUCH);
        }
        return accept(told(w, what));
    }

    public int paint(int w, int x, int y) {
        if (!works.has(w) || !book.hasCell(x, y)) {
            return refuse(NONE_SUCH);
        }
        return accept(works.colourAt(w, book.cellAt(x, y)));
    }

    public int judged(int w) {
        if (!works.has(w)) {
            return refuse(NONE_SUCH);
        }
        return accept(Law.verdict(book, works, w));
    }

    public int breaks(int w) {
        if (!works.has(w)) {
            return refuse(NONE_SUCH);
        }
        return accept(Law.breach(book, works, w));
    }

    public int forged() {
        if (!book.isTold()) {
            return refuse(NONE_SUCH);
        }
        for (int w = 0; w < works.count; w++) {
            if (Law.untimelyCells(book, works, w) != 0) {
                return accept(w);
            }
        }
        return accept(BARE);
    }

    public int left(int w) {
        if (!works.has(w)) {
            return refuse(NONE_SUCH);
        }
        return accept(Integer.bitCount(works.shownCells(w)));
    }

    public int before(int w, int other) {
        if (!areUnlike(w, other)) {
            return refuse(NONE_SUCH);
        }
        sequence.learn(works);
        return accept(sequence.isSure(w, other) ? 1 : 0);
    }

    public int untold() {
        if (!book.isTold()) {
            return refuse(NONE_SUCH);
        }
        sequence.learn(works);
        return accept(sequence.openPairs());
    }

    public long orders() {
        if (!book.isTold()) {
            return refuse(NONE_SUCH);
        }
        sequence.learn(works);
        latestTrouble = NOT_REFUSED;
        return sequence.countAll(NONE, NONE);
    }

    public int placed(int w, boolean latest) {
        if (!works.has(w)) {
            return refuse(NONE_SUCH);
        }
        sequence.learn(works);
        return accept(latest ? sequence.latestPlace(w) : sequence.earliestPlace(w));
    }

    public long ahead(int w, int other) {
        if (!areUnlike(w, other)) {
            return refuse(NONE_SUCH);
        }
        sequence.learn(works);
        latestTrouble = NOT_REFUSED;
        return sequence.countAll(w, other);
    }

    // ---- what is wanted

    public int wanted(int x, int y) {
        if (!book.hasCell(x, y)) {
            return refuse(NONE_SUCH);
        }
        return accept(book.wantedAt(book.cellAt(x, y)));
    }

    public int alike() {
        if (!book.isTold()) {
            return refuse(NONE_SUCH);
        }
        return accept(Integer.bitCount(Plan.alikeCells(book, works)));
    }

    public int best(int year, int what) {
        if (!book.isTold() || what < 0 || what > 2) {
            return refuse(NONE_SUCH);
        }
        if (!looksAhead(year)) {
            return NONE;
        }
        int cells = plan.bestCells();
        if (what == 0) {
            return accept(plan.alikeBehind(cells));
        }
        return accept(what == 1 ? Integer.bitCount(cells) : cells);
    }

    public int need(int year) {
        if (!book.isTold()) {
            return refuse(NONE_SUCH);
        }
        if (!looksAhead(year)) {
            return NONE;
        }
        return accept(plan.fewestWorks());
    }

    public int step(int year, int i) {
        if (!book.isTold() || i < 0) {
            return refuse(NONE_SUCH);
        }
        if (!looksAhead(year)) {
            return NONE;
        }
        int steps = plan.fewestWorks();
        if (steps < 0) {
            return refuse(THERE_IS_NONE);
        }
        if (i >= steps) {
            return refuse(NONE_SUCH);
        }
        return accept(plan.stepCells(i));
    }

    public int reach(int year) {
        if (!book.isTold()) {
            return refuse(NONE_SUCH);
        }
        if (!looksAhead(year)) {
            return NONE;
        }
        return accept(plan.mostAlike());
    }

    public int least(int w, int year) {
        if (!works.has(w)) {
            return refuse(NONE_SUCH);
        }
        if (!looksAhead(year)) {
            return NONE;
        }
        return accept(plan.fewestLeft(works.shownCells(w)));
    }

    public int freed(int contract, int year) {
        if (contract < 0 || contract >= book.contracts) {
            return refuse(NONE_SUCH);
        }
        if (!looksAhead(year)) {
            return NONE;
        }
        int bound = plan.alikeBehind(plan.bestCells());
        plan.look(book, works, year, contract);
        return accept(plan.alikeBehind(plan.bestCells()) - bound);
    }

    // ---- acts

    public boolean begin(int hand, int year) {
        if (!book.hasHand(hand)) {
            return deny(NONE_SUCH);
        }
        if (!isYear(year) || year < works.latestYear()) {
            return deny(A_NUMBER);
        }
        if (works.count >= MOST_WORKS) {
            return deny(NO_ROOM);
        }
        if (works.oneIsWet) {
            return deny(NOT_SO);
        }
        past.keep(works);
        works.start(hand, year);
        works.oneIsWet = true;
        return grant();
    }

    public boolean patch(int colour, int x, int y, int right, int low) {
        if (!book.hasColour(colour)) {
            return deny(NONE_SUCH);
        }
        if (!book.hasPatch(x, y, right, low)) {
            return deny(A_NUMBER);
        }
        if (!works.oneIsWet) {
            return deny(THERE_IS_NONE);
        }
        past.keep(works);
        works.lay(works.count, colour, book.patchCells(x, y, right, low));
        return grant();
    }

    public int dry() {
        if (!works.oneIsWet) {
            return refuse(THERE_IS_NONE);
        }
        if (Law.verdict(book, works, works.count) != 0) {
            return refuse(NOT_SO);
        }
        past.keep(works);
        works.oneIsWet = false;
        works.count++;
        return accept(works.count - 1);
    }

    public boolean wipe() {
        if (!works.oneIsWet) {
            return deny(THERE_IS_NONE);
        }
        past.keep(works);
        works.oneIsWet = false;
        return grant();
    }

    public int wet(int x, int y) {
        if (!book.hasCell(x, y)) {
            return refuse(NONE_SUCH);
        }
        if (!works.oneIsWet) {
            return refuse(THERE_IS_NONE);
        }
        return accept(works.colourAt(works.count, book.cellAt(x, y)));
    }

    public int wetJudged() {
        if (!works.oneIsWet) {
            return refuse(THERE_IS_NONE);
        }
        return accept(Law.verdict(book, works, works.count));
    }

    public boolean scrape(int x, int y) {
        if (!book.hasCell(x, y)) {
            return deny(NONE_SUCH);
        }
        int cell = book.cellAt(x, y);
        int top = works.below(cell, 0);
        if (top == BARE) {
            return deny(THERE_IS_NONE);
        }
        past.keep(works);
        works.lay(top, BARE, 1 << cell);
        return grant();
    }

    public int thief(int year) {
        if (!book.isTold()) {
            return refuse(NONE_SUCH);
        }
        if (!isYear(year)) {
            return refuse(A_NUMBER);
        }
        int robbed = works.cellsLaterThan(year);
        if (robbed == 0) {
            return refuse(THERE_IS_NONE);
        }
        past.keep(works);
        works.stripLaterThan(year);
        return accept(Integer.bitCount(robbed));
    }

    public boolean undo() {
        if (!past.giveBack(works)) {
            return deny(THERE_IS_NONE);
        }
        return grant();
    }

    public int image() {
        if (!book.isTold()) {
            return refuse(NONE_SUCH);
        }
        if (imagesKept >= MOST_IMAGES) {
            return refuse(NO_ROOM);
        }
        images[imagesKept].become(works);
        imagesKept++;
        return accept(imagesKept - 1);
    }

    public boolean back(int image) {
        if (image < 0 || image >= imagesKept) {
            return deny(NONE_SUCH);
        }
        works.become(images[image]);
        past.forget();
        return grant();
    }

    // ---- what is told

    public int led(int i) throws NoSuchElementException {
        int cell = bareCell(i);
        if (cell < 0) {
            throw new NoSuchElementException();
        }
        return cell;
    }

    public int size(int what) {
        switch (what) {
            case 0: return book.wide;
            case 1: return book.high;
            case 2: return book.keeps;
            case 3: return book.parts;
            case 4: return book.colours;
            case 5: return book.hands;
            case 6: return works.count;
            case 7: return book.contracts;
            case 8: return Integer.bitCount(book.wantedCells());
            case 9: return works.oneIsWet ? 1 : 0;
            case 10: return past.kept;
            case 11: return imagesKept;
            case 12: return taped;
            default: return NONE;
        }
    }

    public int trouble() {
        return latestTrouble;
    }

    // ---- answers and their TROUBLE

    private int accept(int answer) {
        latestTrouble = NOT_REFUSED;
        return answer;
    }

    private int refuse(int why) {
        latestTrouble = why;
        return NONE;
    }

    private boolean grant() {
        latestTrouble = NOT_REFUSED;
        return true;
    }

    private boolean deny(int why) {
        latestTrouble = why;
        return false;
    }

    // ---- what the calls share

    private void tapeNumber(int number) {
        for (int shift = 24; shift >= 0 && taped < TAPE_BYTES; shift -= 8) {
            tape[taped] = (byte) (number >> shift);
            taped++;
        }
    }

    /** The reader gets the rows of the BOOK that was, for the next one. */
    private void takeBook() {
        Book formerBook = book;
        Works formerWorks = works;
        book = reader.book;
        works = reader.works;
        reader.book = formerBook;
        reader.works = formerWorks;
        past.forget();
        imagesKept = 0;
        plan.forget();
    }

    private static boolean isYear(int year) {
        return year >= 0 && year <= LAST_YEAR;
    }

    private boolean areUnlike(int w, int other) {
        return works.has(w) && works.has(other) && w != other;
    }

    /** Whether WORKS to come in a year can be told of; the TROUBLE if not. */
    private boolean looksAhead(int year) {
        if (!isYear(year)) {
            return deny(A_NUMBER);
        }
        if (book.cells() > PLANNED_CELLS) {
            return deny(NO_ROOM);
        }
        plan.look(book, works, year, NONE);
        return grant();
    }

    private int colourIn(int cell, int year) {
        for (int w = works.count - 1; w >= 0; w--) {
            int colour = works.colourAt(w, cell);
            int age = year - works.yearOf(w);
            if (colour != BARE && age >= 0 && !book.isFaded(colour, age)) {
                return colour;
            }
        }
        return BARE;
    }

    private int firstChange(int cell) {
        if (works.count == 0) {
            return BARE;
        }
        int start = works.latestYear();
        int first = colourIn(cell, start);
        for (int year = start + 1; year <= LAST_YEAR; year++) {
            if (colourIn(cell, year) != first) {
                return year;
            }
        }
        return BARE;
    }

    /** All thick together at a place; beyond the wall it is 0. */
    private int thickAt(int x, int y) {
        if (!book.hasCell(x, y)) {
            return 0;
        }
        int cell = book.cellAt(x, y);
        int sum = 0;
        for (int w = 0; w < works.count; w++) {
            sum += book.thickOf(works.colourAt(w, cell));
        }
        return sum;
    }

    private int told(int w, int what) {
        int painted = works.cellsOf(w);
        switch (what) {
            case 0: return works.handOf(w);
            case 1: return works.yearOf(w);
            case 2: return Integer.bitCount(painted);
            case 3: return Integer.bitCount(book.allCells() & ~painted);
            default: return book.partsOf(book.allCells() & ~painted);
        }
    }

    private int bareCell(int i) {
        int seen = 0;
        for (int cell = 0; cell < book.cells(); cell++) {
            if (works.below(cell, 0) == BARE) {
                if (seen == i) {
                    return cell;
                }
                seen++;
            }
        }
        return NONE;
    }

    /** The first CELL, by numbers, of some CELLS as bits; NONE of no CELL. */
    private static int firstOf(int cells) {
        return cells == 0 ? NONE : Integer.bitCount((cells & -cells) - 1);
    }

    /**
     * What a BOOK tells for good: the wall, the colours, the hands, the
     * contracts, what is wanted. CELLS are held as bits where many go together.
     */
    private static final class Book {
        int wide;
        int high;
        int keeps;
        int parts;
        int colours;
        int hands;
        int contracts;
        boolean wants;
        private final long[] colourNames = new long[MOST_NAMES];
        private final int[] thick = new int[MOST_NAMES];
        private final int[] fades = new int[MOST_NAMES];
        private final int[] since = new int[MOST_NAMES];
        private final long[] handNames = new long[MOST_NAMES];
        private final int[] guarded = new int[MOST_CONTRACTS];
        private final int[] from = new int[MOST_CONTRACTS];
        private final int[] until = new int[MOST_CONTRACTS];
        private final int[] wantedColours = new int[MOST_CELLS];

        void clear() {
            wide = 0;
            high = 0;
            keeps = 0;
            parts = 0;
            colours = 0;
            hands = 0;
            contracts = 0;
            wants = false;
            Arrays.fill(wantedColours, BARE);
        }

        boolean isTold() {
            return wide > 0;
        }

        int cells() {
            return wide * high;
        }

        int allCells() {
            return (1 << cells()) - 1;
        }

        boolean hasCell(int x, int y) {
            return x >= 0 && x < wide && y >= 0 && y < high;
        }

        int cellAt(int x, int y) {
            return wide * y + x;
        }

        boolean hasPatch(int x, int y, int right, int low) {
            return hasCell(x, y) && hasCell(right, low) && right >= x && low >= y;
        }

        int patchCells(int x, int y, int right, int low) {
            int cells = 0;
            for (int row = y; row <= low && row < high; row++) {
                for (int column = x; column <= right && column < wide; column++) {
                    cells |= 1 << cellAt(column, row);
                }
            }
            return cells;
        }

        boolean hasColour(int colour) {
            return colour >= 0 && colour < colours;
        }

        boolean hasHand(int hand) {
            return hand >= 0 && hand < hands;
        }

        int colourNamed(long name) {
            for (int colour = 0; colour < colours; colour++) {
                if (colourNames[colour] == name) {
                    return colour;
                }
            }
            return NONE;
        }

        int handNamed(long name) {
            for (int hand = 0; hand < hands; hand++) {
                if (handNames[hand] == name) {
                    return hand;
                }
            }
            return NONE;
        }

        void addColour(long name, int howThick, int fadesIn, int sinceYear) {
            if (colours < MOST_NAMES) {
                colourNames[colours] = name;
                thick[colours] = howThick;
                fades[colours] = fadesIn;
                since[colours] = sinceYear;
                colours++;
            }
        }

        void addHand(long name) {
            if (hands < MOST_NAMES) {
                handNames[hands] = name;
                hands++;
            }
        }

        void addContract(int cells, int fromYear, int untilYear) {
            if (contracts < MOST_CONTRACTS) {
                guarded[contracts] = cells;
                from[contracts] = fromYear;
                until[contracts] = untilYear;
                contracts++;
            }
        }

        void want(int colour, int cells) {
            for (int cell = 0; cell < MOST_CELLS; cell++) {
                if ((cells >> cell & 1) != 0) {
                    wantedColours[cell] = colour;
                }
            }
        }

        int thickOf(int colour) {
            return hasColour(colour) ? thick[colour] : 0;
        }

        boolean isFaded(int colour, int age) {
            return hasColour(colour) && fades[colour] != 0 && age >= fades[colour];
        }

        boolean hadComeUp(int colour, int year) {
            return hasColour(colour) && since[colour] <= year;
        }

        boolean hadAnyComeUp(int year) {
            for (int colour = 0; colour < colours; colour++) {
                if (hadComeUp(colour, year)) {
                    return true;
                }
            }
            return false;
        }

        int wantedAt(int cell) {
            return cell >= 0 && cell < cells() && cell < MOST_CELLS ? wantedColours[cell] : BARE;
        }

        int wantedCells() {
            int cells = 0;
            for (int cell = 0; cell < cells(); cell++) {
                if (wantedAt(cell) != BARE) {
                    cells |= 1 << cell;
                }
            }
            return cells;
        }

        /** The CELLS that contracts bar in a year; one contract may be left out, NONE leaves none out. */
        int guardedIn(int year, int leftOut) {
            int cells = 0;
            for (int c = 0; c < contracts; c++) {
                if (c != leftOut && from[c] <= year && year <= until[c]) {
                    cells |= guarded[c];
                }
            }
            return cells;
        }

        int partsOf(int kept) {
            int rest = kept;
            int found = 0;
            for (int turn = 0; turn < MOST_CELLS && rest != 0; turn++) {
                rest &= ~firstPart(rest);
                found++;
            }
            return found;
        }

        /** The first CELL of one of the PARTS, which go by their first CELLS from 0 on; NONE if there are fewer. */
        int partStart(int kept, int which) {
            int rest = kept;
            for (int turn = 0; turn < which; turn++) {
                rest &= ~firstPart(rest);
            }
            return firstOf(rest);
        }

        private int firstPart(int kept) {
            int part = kept & -kept;
            for (int turn = 0; turn < MOST_CELLS; turn++) {
                int grown = part | besides(part) & kept;
                if (grown == part) {
                    break;
                }
                part = grown;
            }
            return part;
        }

        /** What lies at the sides of some CELLS; a row's ends have no side in common with the next row's. */
        private int besides(int cells) {
            int leftmost = 0;
            for (int row = 0; row < high; row++) {
                leftmost |= 1 << row * wide;
            }
            int level = cells << 1 & ~leftmost | (cells & ~leftmost) >> 1;
            return level | cells << wide | cells >> wide;
        }
    }

    /**
     * All WORKS as they are at one time. The wet one stands in the row behind
     * the last of them, so that to dry it is to count it.
     */
    private static final class Works {
        int count;
        boolean oneIsWet;
        private final int[] hands = new int[MOST_WORKS];
        private final int[] years = new int[MOST_WORKS];
        private final int[] colours = new int[MOST_WORKS * MOST_CELLS];

        void clear() {
            count = 0;
            oneIsWet = false;
        }

        void become(Works other) {
            count = other.count;
            oneIsWet = other.oneIsWet;
            System.arraycopy(other.hands, 0, hands, 0, MOST_WORKS);
            System.arraycopy(other.years, 0, years, 0, MOST_WORKS);
            System.arraycopy(other.colours, 0, colours, 0, MOST_WORKS * MOST_CELLS);
        }

        boolean has(int w) {
            return w >= 0 && w < count;
        }

        /** A row without paint behind the last WORK. */
        void start(int hand, int year) {
            if (count >= 0 && count < MOST_WORKS) {
                hands[count] = hand;
                years[count] = year;
                for (int cell = 0; cell < MOST_CELLS; cell++) {
                    colours[count * MOST_CELLS + cell] = BARE;
                }
            }
        }

        void lay(int row, int colour, int cells) {
            for (int cell = 0; cell < MOST_CELLS && isRow(row); cell++) {
                if ((cells >> cell & 1) != 0) {
                    colours[row * MOST_CELLS + cell] = colour;
                }
            }
        }

        int handOf(int row) {
            return isRow(row) ? hands[row] : BARE;
        }

        int yearOf(int row) {
            return isRow(row) ? years[row] : 0;
        }

        int colourAt(int row, int cell) {
            boolean stands = row >= 0 && row < MOST_WORKS && cell >= 0 && cell < MOST_CELLS;
            return stands ? colours[row * MOST_CELLS + cell] : BARE;
        }

        private static boolean isRow(int row) {
            return row >= 0 && row < MOST_WORKS;
        }

        /** The year that no next WORK may be below. */
        int latestYear() {
            return yearOf(count - 1);
        }

        int cellsOf(int row) {
            int cells = 0;
            for (int cell = 0; cell < MOST_CELLS; cell++) {
                if (colourAt(row, cell) != BARE) {
                    cells |= 1 << cell;
                }
            }
            return cells;
        }

        /** The WORK so many below the latest one at a CELL; BARE below them all. */
        int below(int cell, int depth) {
            int above = 0;
            for (int w = count - 1; w >= 0; w--) {
                if (colourAt(w, cell) != BARE) {
                    if (above == depth) {
                        return w;
                    }
                    above++;
                }
            }
            return BARE;
        }

        int layersAt(int cell) {
            int layers = 0;
            for (int w = 0; w < count; w++) {
                if (colourAt(w, cell) != BARE) {
                    layers++;
                }
            }
            return layers;
        }

        int shownAt(int cell) {
            return colourAt(below(cell, 0), cell);
        }

        int shownHandAt(int cell) {
            return handOf(below(cell, 0));
        }

        /** The CELLS by which a WORK SHOWS. */
        int shownCells(int w) {
            int cells = cellsOf(w);
            for (int later = w + 1; later < count; later++) {
                cells &= ~cellsOf(later);
            }
            return cells;
        }

        int cellsLaterThan(int year) {
            int cells = 0;
            for (int w = 0; w < count; w++) {
                if (yearOf(w) > year) {
                    cells |= cellsOf(w);
                }
            }
            return cells;
        }

        void stripLaterThan(int year) {
            for (int w = 0; w < count; w++) {
                if (yearOf(w) > year) {
                    lay(w, BARE, cellsOf(w));
                }
            }
        }
    }

    /** What all WORKS were ahead of the latest ACTS; the oldest gives its row to the newest. */
    private static final class Past {
        int kept;
        private int next;
        private final Works[] rows = new Works[MOST_UNDONE];

        Past() {
            for (int i = 0; i < MOST_UNDONE; i++) {
                rows[i] = new Works();
            }
        }

        void forget() {
            kept = 0;
        }

        void keep(Works works) {
            rows[next].become(works);
            next = (next + 1) % MOST_UNDONE;
            kept = Math.min(kept + 1, MOST_UNDONE);
        }

        boolean giveBack(Works works) {
            if (kept == 0) {
                return false;
            }
            kept--;
            next = (next + MOST_UNDONE - 1) % MOST_UNDONE;
            works.become(rows[next]);
            return true;
        }
    }

    /** How a WORK, or the wet one, is JUDGED by the paint that it has now. */
    private static final class Law {
        private static final int KEEPS_TOO_FEW = 1;
        private static final int TOO_MANY_PARTS = 2;
        private static final int IN_A_CONTRACT = 3;
        private static final int UNTIMELY = 4;

        static int verdict(Book book, Works works, int row) {
            int painted = works.cellsOf(row);
            int kept = book.allCells() & ~painted;
            if (Integer.bitCount(kept) < book.keeps) {
                return KEEPS_TOO_FEW;
            }
            if (book.parts != 0 && book.partsOf(kept) > book.parts) {
                return TOO_MANY_PARTS;
            }
            if ((painted & book.guardedIn(works.yearOf(row), NONE)) != 0) {
                return IN_A_CONTRACT;
            }
            return untimelyCells(book, works, row) != 0 ? UNTIMELY : 0;
        }

        static int breach(Book book, Works works, int row) {
            int painted = works.cellsOf(row);
            switch (verdict(book, works, row)) {
                case KEEPS_TOO_FEW: return cellBehind(painted, book.cells() - book.keeps);
                case TOO_MANY_PARTS: return book.partStart(book.allCells() & ~painted, book.parts);
                case IN_A_CONTRACT: return firstOf(painted & book.guardedIn(works.yearOf(row), NONE));
                case UNTIMELY: return firstOf(untimelyCells(book, works, row));
                default: return BARE;
            }
        }

        /** The CELLS with a colour that came up behind the WORK's year. */
        static int untimelyCells(Book book, Works works, int row) {
            int cells = 0;
            for (int cell = 0; cell < book.cells(); cell++) {
                int colour = works.colourAt(row, cell);
                if (colour != BARE && !book.hadComeUp(colour, works.yearOf(row))) {
                    cells |= 1 << cell;
                }
            }
            return cells;
        }

        /** Of some CELLS the one behind so many of them. */
        private static int cellBehind(int cells, int many) {
            int rest = cells;
            for (int i = 0; i < many; i++) {
                rest &= rest - 1;
            }
            return firstOf(rest);
        }
    }

    /** Who was surely BEFORE whom, and in how many ORDERS all WORKS can have come. */
    private static final class Orders {
        private int count;
        private final int[] painted = new int[MOST_WORKS];
        private final int[] surelyBefore = new int[MOST_WORKS];
        private final long[] ways = new long[1 << MOST_WORKS];

        /** An earlier WORK's own row is whole when a later one asks for it: so those between are told too. */
        void learn(Works works) {
            count = Math.min(works.count, MOST_WORKS);
            for (int w = 0; w < count; w++) {
                painted[w] = works.cellsOf(w);
                surelyBefore[w] = 0;
                for (int earlier = 0; earlier < w; earlier++) {
                    if ((painted[earlier] & painted[w]) != 0) {
                        surelyBefore[w] |= surelyBefore[earlier] | 1 << earlier;
                    }
                }
            }
        }

        boolean isSure(int w, int other) {
            return other >= 0 && other < count && (surelyBefore[other] >> w & 1) != 0;
        }

        int openPairs() {
            int pairs = count * (count - 1) / 2;
            for (int w = 0; w < count; w++) {
                pairs -= Integer.bitCount(surelyBefore[w]);
            }
            return pairs;
        }

        int earliestPlace(int w) {
            int place = 0;
            for (int other = 0; other < count; other++) {
                if (isSure(other, w)) {
                    place++;
                }
            }
            return place;
        }

        int latestPlace(int w) {
            int place = count - 1;
            for (int other = 0; other < count; other++) {
                if (isSure(w, other)) {
                    place--;
                }
            }
            return place;
        }

        /** Counted by which WORKS have come so far; those orders alone in which first comes ahead of second (NONE: all). */
        long countAll(int first, int second) {
            int sets = 1 << count;
            for (int come = 0; come < sets; come++) {
                ways[come] = 0;
            }
            ways[0] = 1;
            for (int come = 0; come < sets; come++) {
                for (int w = 0; w < count && ways[come] != 0; w++) {
                    int waitsFor = w == second ? surelyBefore[w] | 1 << first : surelyBefore[w];
                    if ((come >> w & 1) == 0 && (waitsFor & ~come) == 0) {
                        ways[come | 1 << w] += ways[come];
                    }
                }
            }
            return ways[sets - 1];
        }
    }

    /**
     * What WORKS to come can bring of what is WANTED, in one year. A WORK is
     * the CELLS that it paints, as bits: each has the colour WANTED there if
     * that had come up, so paint alone decides what is ALIKE behind it.
     */
    private static final class Plan {
        private static final int SETS = 1 << PLANNED_CELLS;
        private static final int NEVER = 100;

        /** By CELLS painted: 1 if keeps and parts allow it. It holds for the whole BOOK. */
        private final byte[] lawful = new byte[SETS];
        private boolean lawfulIsKnown;
        /** By CELLS that lack: by how few WORKS, one behind the other, they can be brought. */
        private final int[] fewest = new int[SETS];
        private int fewestBarred = NONE;
        private int fewestLacking = NONE;
        /** By CELLS: what all WORKS that stay within them paint together. */
        private final int[] within = new int[SETS];

        private int sets;
        private int alikeNow;
        private int brought;
        private int spoiled;
        private int barred;

        void forget() {
            lawfulIsKnown = false;
            fewestBarred = NONE;
            fewestLacking = NONE;
        }

        /** The contract leftOut isn't heeded; NONE: all are. */
        void look(Book book, Works works, int year, int leftOut) {
            sets = Math.min(book.allCells() + 1, SETS);
            learnLaw(book);
            alikeNow = alikeCells(book, works);
            brought = 0;
            for (int cell = 0; cell < book.cells(); cell++) {
                if (book.hadComeUp(book.wantedAt(cell), year)) {
                    brought |= 1 << cell;
                }
            }
            spoiled = book.wantedCells() & ~brought;
            barred = book.hadAnyComeUp(year) ? book.guardedIn(year, leftOut) : book.allCells();
        }

        static int alikeCells(Book book, Works works) {
            int cells = 0;
            for (int cell = 0; cell < book.cells(); cell++) {
                int colour = book.wantedAt(cell);
                if (colour != BARE && works.shownAt(cell) == colour) {
                    cells |= 1 << cell;
                }
            }
            return cells;
        }

        private void learnLaw(Book book) {
            if (lawfulIsKnown) {
                return;
            }
            for (int cells = 0; cells < sets; cells++) {
                int kept = book.allCells() & ~cells;
                boolean enough = Integer.bitCount(kept) >= book.keeps;
                boolean whole = enough && (book.parts == 0 || book.partsOf(kept) <= book.parts);
                lawful[cells] = (byte) (whole ? 1 : 0);
            }
            lawfulIsKnown = true;
        }

        private boolean mayPaint(int cells, int shunned) {
            return (cells & shunned) == 0 && lawful[cells] != 0;
        }

        int alikeBehind(int painted) {
            return Integer.bitCount(alikeNow & ~painted | brought & painted);
        }

        /** BEST. CELLS come by their bits, so a later like one is never the better one. */
        int bestCells() {
            int best = 0;
            int most = alikeBehind(0);
            for (int cells = 1; cells < sets; cells++) {
                int like = alikeBehind(cells);
                boolean better = like > most || like == most && Integer.bitCount(cells) < Integer.bitCount(best);
                if (better && mayPaint(cells, barred)) {
                    best = cells;
                    most = like;
                }
            }
            return best;
        }

        /** NEED; BARE if it can't be. What is spoiled once never comes back, so no such CELL may be painted. */
        int fewestWorks() {
            if ((spoiled & ~alikeNow) != 0) {
                return BARE;
            }
            int lacking = brought & ~alikeNow;
            learnFewest(lacking, barred | spoiled);
            return fewest[lacking] < NEVER ? fewest[lacking] : BARE;
        }

        private void learnFewest(int lacking, int shunned) {
            if (fewestBarred == shunned && fewestLacking == lacking) {
                return;
            }
            learnOneWork(shunned);
            fewest[0] = 0;
            for (int some = 1; some <= lacking; some++) {
                if ((some & ~lacking) == 0 && fewest[some] != 1) {
                    fewest[some] = fewestInTurn(some);
                }
            }
            fewestBarred = shunned;
            fewestLacking = lacking;
        }

        /** What one WORK can bring is what lies within the CELLS of one that may be. */
        private void learnOneWork(int shunned) {
            for (int cells = sets - 1; cells >= 0; cells--) {
                boolean one = mayPaint(cells, shunned);
                for (int more = 1; more < sets && !one; more <<= 1) {
                    one = (cells & more) == 0 && fewest[cells | more] == 1;
                }
                fewest[cells] = one ? 1 : NEVER;
            }
        }

        /** One of the WORKS brings the first CELL: it is tried with every choice of the other ones. */
        private int fewestInTurn(int some) {
            int first = some & -some;
            int others = some & ~first;
            int choices = 1 << Integer.bitCount(others);
            int least = NEVER;
            int choice = others;
            for (int i = 0; i < choices && least > 2; i++) {
                if (fewest[choice | first] == 1) {
                    least = Math.min(least, fewest[others & ~choice] + 1);
                }
                choice = (choice - 1) & others;
            }
            return least;
        }

        /** The CELLS of a STEP; fewestWorks must have answered more than i. */
        int stepCells(int i) {
            int lacking = brought & ~alikeNow;
            int cells = 0;
            for (int turn = 0; turn <= i && turn < PLANNED_CELLS; turn++) {
                cells = leastNext(lacking);
                lacking &= ~cells;
            }
            return cells;
        }

        private int leastNext(int lacking) {
            for (int cells = 1; cells < sets; cells++) {
                if (fewest[lacking & ~cells] == fewest[lacking] - 1 && mayPaint(cells, barred | spoiled)) {
                    return cells;
                }
            }
            return 0;
        }

        /** REACH. Of WORKS in one year their order is nothing, only what they paint together. */
        int mostAlike() {
            int most = 0;
            for (int cells = 0; cells < sets; cells++) {
                within[cells] = mayPaint(cells, barred) ? cells : paintedWithin(cells);
                if (within[cells] == cells) {
                    most = Math.max(most, alikeBehind(cells));
                }
            }
            return most;
        }

        private int paintedWithin(int cells) {
            int together = 0;
            int rest = cells;
            for (int i = 0; i < PLANNED_CELLS && rest != 0; i++) {
                together |= within[cells & ~(rest & -rest)];
                rest &= rest - 1;
            }
            return together;
        }

        /** LEAST: how many of some CELLS stay behind the WORK that takes most of them. */
        int fewestLeft(int shown) {
            int least = Integer.bitCount(shown);
            for (int cells = 1; cells < sets; cells++) {
                int stay = Integer.bitCount(shown & ~cells);
                if (stay < least && mayPaint(cells, barred)) {
                    least = stay;
                }
            }
            return least;
        }
    }

    /** A text cut into TOKENS; behind them stands its END. */
    private static final class Tokens {
        private static final int NO_TOKEN = 0;
        private static final int END = 1;
        private static final int WORD = 2;
        private static final int WHOLE = 3;
        private static final int SEMICOLON = 4;
        private static final int COMMA = 5;

        private static final int WORD_LETTERS = 8;
        private static final int WHOLE_DIGITS = 3;

        /** A WORD has at most 8 letters: a long holds it whole, a letter in a byte, and no text need be made of it. */
        static final long WALL = 0x77616c6cL;
        static final long WIDE = 0x77696465L;
        static final long HIGH = 0x68696768L;
        static final long KEEPS = 0x6b65657073L;
        static final long PARTS = 0x7061727473L;
        static final long COLOUR = 0x636f6c6f7572L;
        static final long THICK = 0x746869636bL;
        static final long FADES = 0x6661646573L;
        static final long SINCE = 0x73696e6365L;
        static final long HAND = 0x68616e64L;
        static final long WORK = 0x776f726bL;
        static final long YEAR = 0x79656172L;
        static final long TO = 0x746fL;
        static final long CONTRACT = 0x636f6e7472616374L;
        static final long FROM = 0x66726f6dL;
        static final long UNTIL = 0x756e74696cL;
        static final long WANT = 0x77616e74L;

        private int count;
        private final int[] kinds = new int[TAPE_BYTES + 1];
        private final int[] starts = new int[TAPE_BYTES + 1];
        private final long[] values = new long[TAPE_BYTES + 1];

        void cut(byte[] text, int length) {
            count = 0;
            int start = 0;
            for (int turn = 0; turn < length && start < length; turn++) {
                int end = endOf(text, start, length);
                int kind = kindOf(text[start], end - start);
                if (text[start] != ' ') {
                    put(kind, start, kind == WHOLE ? numberOf(text, start, end) : lettersOf(text, start, end));
                }
                start = end;
            }
            put(END, length, 0);
        }

        private void put(int kind, int start, long value) {
            if (count < kinds.length) {
                kinds[count] = kind;
                starts[count] = start;
                values[count] = value;
                count++;
            }
        }

        /** Letters stand together, and digits do; each other byte stands alone. */
        private static int endOf(byte[] text, int start, int length) {
            int end = start + 1;
            while (end < length && (areLetters(text[start], text[end]) || areDigits(text[start], text[end]))) {
                end++;
            }
            return end;
        }

        private static int kindOf(int first, int many) {
            if (areLetters(first, first)) {
                return many > WORD_LETTERS ? NO_TOKEN : WORD;
            }
            if (areDigits(first, first)) {
                return many > WHOLE_DIGITS ? NO_TOKEN : WHOLE;
            }
            return first == ';' ? SEMICOLON : first == ',' ? COMMA : NO_TOKEN;
        }

        private static boolean areLetters(int one, int other) {
            return one >= 'a' && one <= 'z' && other >= 'a' && other <= 'z';
        }

        private static boolean areDigits(int one, int other) {
            return one >= '0' && one <= '9' && other >= '0' && other <= '9';
        }

        private static long numberOf(byte[] text, int start, int end) {
            long number = 0;
            for (int i = start; i < end; i++) {
                number = number * 10 + (text[i] - '0');
            }
            return number;
        }

        private static long lettersOf(byte[] text, int start, int end) {
            long letters = 0;
            for (int i = start; i < end; i++) {
                letters = letters << 8 | text[i];
            }
            return letters;
        }

        boolean isKind(int i, int kind) {
            return i >= 0 && i < count && kinds[i] == kind;
        }

        boolean isWord(int i, long word) {
            return i >= 0 && i < count && kinds[i] == WORD && values[i] == word;
        }

        /** NAMES are WORDS but those that begin a LINE. */
        boolean isName(int i) {
            boolean beginsLine = isWord(i, WALL) || isWord(i, COLOUR) || isWord(i, HAND)
                || isWord(i, WORK) || isWord(i, CONTRACT) || isWord(i, WANT);
            return isKind(i, WORD) && !beginsLine;
        }

        long valueOf(int i) {
            return i >= 0 && i < count ? values[i] : 0;
        }

        int startOf(int i) {
            return i >= 0 && i < count ? starts[i] : NONE;
        }
    }

    /**
     * Reads a BOOK from the left, TOKEN by TOKEN. The first FAULT alone is
     * kept, so what is read behind it needs no care: nobody will see it.
     */
    private static final class Reader {
        private static final int FORM = 1;
        private static final int NOT_TOLD = 2;
        private static final int TOLD_AGAIN = 3;
        private static final int OUT_OF_BOUNDS = 4;
        private static final int MANY = 5;
        private static final int LACKS = 6;

        int fault;
        int place = NONE;
        Book book = new Book();
        Works works = new Works();
        private final Tokens tokens = new Tokens();
        private int at;
        private int faultAt;

        void readBook(byte[] text, int n) {
            int length = Math.min(n, text.length);
            tokens.cut(text, length);
            book.clear();
            works.clear();
            fault = 0;
            at = 0;
            boolean more = true;
            for (int lines = 0; lines <= length && more; lines++) {
                if (tokens.isWord(at, Tokens.WALL)) {
                    wallLine();
                } else if (tokens.isWord(at, Tokens.COLOUR)) {
                    colourLine();
                } else if (tokens.isWord(at, Tokens.HAND)) {
                    handLine();
                } else if (tokens.isWord(at, Tokens.WORK)) {
                    workLine();
                } else if (tokens.isWord(at, Tokens.CONTRACT)) {
                    contractLine();
                } else if (tokens.isWord(at, Tokens.WANT)) {
                    wantLine();
                } else {
                    fail(FORM);
                }
                more = isLineToCome();
            }
            place = fault == 0 ? NONE : tokens.startOf(faultAt);
        }

        private boolean isLineToCome() {
            boolean more = tokens.isKind(at, Tokens.SEMICOLON);
            if (!more && !tokens.isKind(at, Tokens.END)) {
                fail(FORM);
            }
            if (!more && !book.isTold()) {
                fail(LACKS);
            }
            at++;
            return more && fault == 0;
        }

        private void wallLine() {
            if (book.isTold()) {
                fail(TOLD_AGAIN);
            }
            at++;
            readWord(Tokens.WIDE);
            book.wide = readWhole(1, 6);
            readWord(Tokens.HIGH);
            book.high = readWhole(1, 4);
            readWord(Tokens.KEEPS);
            book.keeps = readWhole(0, book.cells());
            readWord(Tokens.PARTS);
            book.parts = readWhole(0, 9);
        }

        private void colourLine() {
            if (book.colours >= MOST_NAMES) {
                fail(MANY);
            }
            at++;
            long name = readNewName(false);
            readWord(Tokens.THICK);
            int thick = readWhole(0, 9);
            readWord(Tokens.FADES);
            int fades = readWhole(0, LAST_YEAR);
            readWord(Tokens.SINCE);
            int since = readWhole(0, LAST_YEAR);
            if (fault == 0) {
                book.addColour(name, thick, fades, since);
            }
        }

        private void handLine() {
            boolean more = true;
            for (int names = 0; names <= MOST_NAMES && more; names++) {
                at++;
                long name = readNewName(book.hands >= MOST_NAMES);
                if (fault == 0) {
                    book.addHand(name);
                }
                more = fault == 0 && tokens.isKind(at, Tokens.COMMA);
            }
        }

        private void workLine() {
            if (works.count >= MOST_BOOK_WORKS) {
                fail(MANY);
            }
            if (!book.isTold()) {
                fail(LACKS);
            }
            at++;
            int hand = readHand();
            readWord(Tokens.YEAR);
            works.start(hand, readWhole(works.latestYear(), LAST_YEAR));
            readPatches(works.count);
            if (fault == 0) {
                works.count++;
            }
        }

        private void contractLine() {
            if (book.contracts >= MOST_CONTRACTS) {
                fail(MANY);
            }
            if (!book.isTold()) {
                fail(LACKS);
            }
            at++;
            int cells = readCorners();
            readWord(Tokens.FROM);
            int from = readWhole(0, LAST_YEAR);
            readWord(Tokens.UNTIL);
            int until = readWhole(from, LAST_YEAR);
            if (fault == 0) {
                book.addContract(cells, from, until);
            }
        }

        private void wantLine() {
            if (book.wants) {
                fail(TOLD_AGAIN);
            }
            if (!book.isTold()) {
                fail(LACKS);
            }
            book.wants = true;
            at++;
            readPatches(NONE);
        }

        /** The PATCHES of the work in a row; NONE: those of want. */
        private void readPatches(int row) {
            boolean more = true;
            for (int patches = 0; patches <= MOST_PATCHES && more; patches++) {
                int colour = readColour(patches >= MOST_PATCHES);
                int cells = readCorners();
                if (fault == 0 && row == NONE) {
                    book.want(colour, cells);
                } else if (fault == 0) {
                    works.lay(row, colour, cells);
                }
                more = fault == 0 && tokens.isKind(at, Tokens.COMMA);
                if (more) {
                    at++;
                }
            }
        }

        private int readCorners() {
            int x = readWhole(0, book.wide - 1);
            readComma();
            int y = readWhole(0, book.high - 1);
            readWord(Tokens.TO);
            int right = readWhole(x, book.wide - 1);
            readComma();
            int low = readWhole(y, book.high - 1);
            return book.patchCells(x, y, right, low);
        }

        private void readWord(long word) {
            if (!tokens.isWord(at, word)) {
                fail(FORM);
            }
            at++;
        }

        private void readComma() {
            if (!tokens.isKind(at, Tokens.COMMA)) {
                fail(FORM);
            }
            at++;
        }

        private int readWhole(int lowest, int highest) {
            long whole = tokens.valueOf(at);
            if (!tokens.isKind(at, Tokens.WHOLE)) {
                fail(FORM);
            }
            if (whole < lowest || whole > highest) {
                fail(OUT_OF_BOUNDS);
            }
            at++;
            return fault == 0 ? (int) whole : 0;
        }

        private long readNewName(boolean isFull) {
            long name = tokens.valueOf(at);
            if (!tokens.isName(at)) {
                fail(FORM);
            }
            if (book.colourNamed(name) != NONE || book.handNamed(name) != NONE) {
                fail(TOLD_AGAIN);
            }
            if (isFull) {
                fail(MANY);
            }
            at++;
            return name;
        }

        private int readColour(boolean isFull) {
            int colour = book.colourNamed(tokens.valueOf(at));
            if (!tokens.isName(at)) {
                fail(FORM);
            }
            if (colour == NONE) {
                fail(NOT_TOLD);
            }
            if (isFull) {
                fail(MANY);
            }
            at++;
            return colour;
        }

        private int readHand() {
            int hand = book.handNamed(tokens.valueOf(at));
            if (!tokens.isName(at)) {
                fail(FORM);
            }
            if (hand == NONE) {
                fail(NOT_TOLD);
            }
            at++;
            return hand;
        }

        /** Of more FAULTS at one place the least number is looked for first. */
        private void fail(int what) {
            if (fault == 0) {
                fault = what;
                faultAt = at;
            }
        }
    }
}
