import java.util.ArrayDeque;
import java.util.ArrayList;
import java.util.Arrays;
import java.util.HashMap;
import java.util.HashSet;
import java.util.List;
import java.util.Map;
import java.util.Set;
import java.util.TreeSet;

/**
 * The document once more, as plainly and slowly as it can be written: sets of
 * cells instead of bits, every order and every work tried one by one. It is
 * what PaintedOver is held against; only its speed keeps it out of use.
 */
final class Model {
    static final class Fault extends RuntimeException {
        private static final long serialVersionUID = 1L;
        final int kind;
        final int place;

        Fault(int kind, int place) {
            this.kind = kind;
            this.place = place;
        }
    }

    /** A call refused, and by which number. */
    static final class Refused extends RuntimeException {
        private static final long serialVersionUID = 1L;
        final int why;

        Refused(int why) {
            this.why = why;
        }
    }

    static final class Colour {
        String name;
        int thick;
        int fades;
        int since;
    }

    static final class Contract {
        Set<Integer> cells;
        int from;
        int until;
    }

    static final class Work {
        int hand;
        int year;
        Map<Integer, Integer> paint = new HashMap<>();

        Work copy() {
            Work w = new Work();
            w.hand = hand;
            w.year = year;
            w.paint = new HashMap<>(paint);
            return w;
        }
    }

    static final class State {
        List<Work> works = new ArrayList<>();
        Work wet;

        State copy() {
            State s = new State();
            for (Work w : works) {
                s.works.add(w.copy());
            }
            s.wet = wet == null ? null : wet.copy();
            return s;
        }
    }

    static final class Book {
        int wide;
        int high;
        int keeps;
        int parts;
        List<Colour> colours = new ArrayList<>();
        List<String> hands = new ArrayList<>();
        List<Contract> contracts = new ArrayList<>();
        boolean wants;
        Map<Integer, Integer> wanted = new HashMap<>();
        State opening = new State();
    }

    StringBuilder tape = new StringBuilder();
    Book book;
    State now = new State();
    List<State> past = new ArrayList<>();
    List<State> images = new ArrayList<>();
    int trouble;
    int fault;
    int place;

    // ---- the text

    private static final class Token {
        final String text;
        final int place;

        Token(String text, int place) {
            this.text = text;
            this.place = place;
        }
    }

    private static final Set<String> KEPT =
        new HashSet<>(Arrays.asList("wall", "colour", "hand", "work", "contract", "want"));

    private final List<Token> tokens = new ArrayList<>();
    private int next;

    private static List<Token> cut(String text) {
        List<Token> found = new ArrayList<>();
        java.util.regex.Matcher m = java.util.regex.Pattern.compile("[a-z]+|[0-9]+|[^ ]", java.util.regex.Pattern.DOTALL).matcher(text);
        while (m.find()) {
            found.add(new Token(m.group(), m.start()));
        }
        found.add(new Token("", text.length()));
        return found;
    }

    private Token peek() {
        return tokens.get(next);
    }

    private boolean sees(String what) {
        return peek().text.equals(what);
    }

    private Fault faultHere(int kind) {
        return new Fault(kind, peek().place);
    }

    private void expect(String what) {
        if (!sees(what)) {
            throw faultHere(1);
        }
        next++;
    }

    private int whole(int low, int high) {
        if (!peek().text.matches("[0-9]{1,3}")) {
            throw faultHere(1);
        }
        int n = Integer.parseInt(peek().text);
        if (n < low || n > high) {
            throw faultHere(4);
        }
        next++;
        return n;
    }

    private String name() {
        if (!peek().text.matches("[a-z]{1,8}") || KEPT.contains(peek().text)) {
            throw faultHere(1);
        }
        return peek().text;
    }

    private static int colourNamed(Book b, String name) {
        for (int i = 0; i < b.colours.size(); i++) {
            if (b.colours.get(i).name.equals(name)) {
                return i;
            }
        }
        return -1;
    }

    private String newName(Book b) {
        String n = name();
        if (colourNamed(b, n) >= 0 || b.hands.contains(n)) {
            throw faultHere(3);
        }
        return n;
    }

    private Set<Integer> corners(Book b) {
        int x = whole(0, b.wide - 1);
        expect(",");
        int y = whole(0, b.high - 1);
        expect("to");
        int right = whole(x, b.wide - 1);
        expect(",");
        int low = whole(y, b.high - 1);
        return box(b, x, y, right, low);
    }

    private static Set<Integer> box(Book b, int x, int y, int right, int low) {
        Set<Integer> cells = new TreeSet<>();
        for (int cell = 0; cell < b.wide * b.high; cell++) {
            int cx = cell % b.wide;
            int cy = cell / b.wide;
            if (cx >= x && cx <= right && cy >= y && cy <= low) {
                cells.add(cell);
            }
        }
        return cells;
    }

    private void patches(Book b, Map<Integer, Integer> onto) {
        int count = 0;
        do {
            if (count > 0) {
                expect(",");
            }
            int colour = colourNamed(b, name());
            if (colour < 0) {
                throw faultHere(2);
            }
            if (count == 4) {
                throw faultHere(5);
            }
            count++;
            next++;
            for (int cell : corners(b)) {
                onto.put(cell, colour);
            }
        } while (sees(","));
    }

    private Book parse(String text) {
        tokens.clear();
        tokens.addAll(cut(text));
        next = 0;
        Book b = new Book();
        line(b);
        while (sees(";")) {
            next++;
            line(b);
        }
        if (!sees("")) {
            throw faultHere(1);
        }
        if (b.wide == 0) {
            throw faultHere(6);
        }
        return b;
    }

    private void needWall(Book b) {
        if (b.wide == 0) {
            throw faultHere(6);
        }
    }

    private void line(Book b) {
        if (sees("wall")) {
            if (b.wide > 0) {
                throw faultHere(3);
            }
            next++;
            expect("wide");
            b.wide = whole(1, 6);
            expect("high");
            b.high = whole(1, 4);
            expect("keeps");
            b.keeps = whole(0, b.wide * b.high);
            expect("parts");
            b.parts = whole(0, 9);
        } else if (sees("colour")) {
            if (b.colours.size() == 5) {
                throw faultHere(5);
            }
            next++;
            Colour c = new Colour();
            c.name = newName(b);
            next++;
            expect("thick");
            c.thick = whole(0, 9);
            expect("fades");
            c.fades = whole(0, 999);
            expect("since");
            c.since = whole(0, 999);
            b.colours.add(c);
        } else if (sees("hand")) {
            do {
                next++;
                String n = newName(b);
                if (b.hands.size() == 5) {
                    throw faultHere(5);
                }
                b.hands.add(n);
                next++;
            } while (sees(","));
        } else if (sees("work")) {
            if (b.opening.works.size() == 9) {
                throw faultHere(5);
            }
            needWall(b);
            next++;
            Work w = new Work();
            w.hand = b.hands.indexOf(name());
            if (w.hand < 0) {
                throw faultHere(2);
            }
            next++;
            expect("year");
            w.year = whole(b.opening.works.isEmpty() ? 0 : b.opening.works.get(b.opening.works.size() - 1).year, 999);
            patches(b, w.paint);
            b.opening.works.add(w);
        } else if (sees("contract")) {
            if (b.contracts.size() == 4) {
                throw faultHere(5);
            }
            needWall(b);
            next++;
            Contract c = new Contract();
            c.cells = corners(b);
            expect("from");
            c.from = whole(0, 999);
            expect("until");
            c.until = whole(c.from, 999);
            b.contracts.add(c);
        } else if (sees("want")) {
            if (b.wants) {
                throw faultHere(3);
            }
            needWall(b);
            b.wants = true;
            next++;
            patches(b, b.wanted);
        } else {
            throw faultHere(1);
        }
    }

    // ---- the book

    int feed(int... numbers) {
        if (tape.length() + 20 > 900) {
            return -1;
        }
        for (int n : numbers) {
            for (int shift = 24; shift >= 0; shift -= 8) {
                tape.append((char) (n >>> shift & 255));
            }
        }
        return tape.length();
    }

    long book(int n) {
        if (n < 0 || n > tape.length()) {
            throw new Refused(2);
        }
        String text = tape.substring(0, n);
        tape.setLength(0);
        try {
            book = parse(text);
        } catch (Fault f) {
            fault = f.kind;
            place = f.place;
            throw new Refused(4);
        }
        fault = 0;
        now = book.opening;
        past.clear();
        images.clear();
        return now.works.size();
    }

    int fault() {
        return fault;
    }

    int where() {
        return trouble == 4 ? place : -1;
    }

    // ---- tests of arguments

    private int cell(int x, int y) {
        if (book == null || x < 0 || y < 0 || x >= book.wide || y >= book.high) {
            throw new Refused(1);
        }
        return book.wide * y + x;
    }

    private void told() {
        if (book == null) {
            throw new Refused(1);
        }
    }

    private Work workOf(int w) {
        if (book == null || w < 0 || w >= now.works.size()) {
            throw new Refused(1);
        }
        return now.works.get(w);
    }

    private static void year(int year) {
        if (year < 0 || year > 999) {
            throw new Refused(2);
        }
    }

    private void small() {
        if (cells() > 12) {
            throw new Refused(3);
        }
    }

    private int cells() {
        return book.wide * book.high;
    }

    // ---- what shows

    private List<Integer> layers(int cell) {
        List<Integer> down = new ArrayList<>();
        for (int w = now.works.size() - 1; w >= 0; w--) {
            if (now.works.get(w).paint.containsKey(cell)) {
                down.add(w);
            }
        }
        return down;
    }

    private int shown(int cell) {
        List<Integer> down = layers(cell);
        return down.isEmpty() ? -2 : now.works.get(down.get(0)).paint.get(cell);
    }

    long shows(int x, int y) {
        return shown(cell(x, y));
    }

    private int hand(int cell) {
        List<Integer> down = layers(cell);
        return down.isEmpty() ? -2 : now.works.get(down.get(0)).hand;
    }

    long whose(int x, int y) {
        return hand(cell(x, y));
    }

    private int shownIn(int cell, int year) {
        for (int w : layers(cell)) {
            Work work = now.works.get(w);
            int colour = work.paint.get(cell);
            int fades = book.colours.get(colour).fades;
            boolean faded = fades != 0 && year >= work.year + fades;
            if (work.year <= year && !faded) {
                return colour;
            }
        }
        return -2;
    }

    long was(int x, int y, int year) {
        int cell = cell(x, y);
        year(year);
        return shownIn(cell, year);
    }

    long scraped(int x, int y, int depth) {
        List<Integer> down = layers(cell(x, y));
        if (depth < 0) {
            throw new Refused(2);
        }
        return depth < down.size() ? down.get(depth) : -2;
    }

    long deep(int x, int y) {
        return layers(cell(x, y)).size();
    }

    long relief(int x, int y) {
        int cell = cell(x, y);
        int sum = 0;
        for (int w : layers(cell)) {
            sum += book.colours.get(now.works.get(w).paint.get(cell)).thick;
        }
        return sum;
    }

    long light(int x, int y) {
        return relief(x, y) > (x == 0 ? 0 : relief(x - 1, y)) ? 1 : 0;
    }

    long area(int colour) {
        if (book == null || colour < 0 || colour >= book.colours.size()) {
            throw new Refused(1);
        }
        int n = 0;
        for (int cell = 0; cell < cells(); cell++) {
            n += shown(cell) == colour ? 1 : 0;
        }
        return n;
    }

    long share(int hand) {
        if (book == null || hand < 0 || hand >= book.hands.size()) {
            throw new Refused(1);
        }
        int n = 0;
        for (int cell = 0; cell < cells(); cell++) {
            n += hand(cell) == hand ? 1 : 0;
        }
        return n;
    }

    long old(int year) {
        told();
        year(year);
        int n = 0;
        for (int cell = 0; cell < cells(); cell++) {
            List<Integer> down = layers(cell);
            n += !down.isEmpty() && now.works.get(down.get(0)).year <= year ? 1 : 0;
        }
        return n;
    }

    long changes(int x, int y) {
        int cell = cell(x, y);
        if (now.works.isEmpty()) {
            return -2;
        }
        int year = now.works.get(now.works.size() - 1).year;
        int then = shownIn(cell, year);
        while (year <= 999 && shownIn(cell, year) == then) {
            year++;
        }
        return year > 999 ? -2 : year;
    }

    // ---- works

    private Set<Integer> kept(Set<Integer> painted) {
        Set<Integer> kept = new TreeSet<>();
        for (int cell = 0; cell < cells(); cell++) {
            if (!painted.contains(cell)) {
                kept.add(cell);
            }
        }
        return kept;
    }

    /** The parts of some cells, by their first cells. */
    private List<Set<Integer>> parts(Set<Integer> kept) {
        List<Set<Integer>> parts = new ArrayList<>();
        Set<Integer> seen = new HashSet<>();
        for (int cell : new TreeSet<>(kept)) {
            if (!seen.contains(cell)) {
                Set<Integer> part = new TreeSet<>();
                spread(cell, kept, part);
                seen.addAll(part);
                parts.add(part);
            }
        }
        return parts;
    }

    private void spread(int cell, Set<Integer> kept, Set<Integer> part) {
        if (!kept.contains(cell) || !part.add(cell)) {
            return;
        }
        int x = cell % book.wide;
        int y = cell / book.wide;
        if (x > 0) {
            spread(cell - 1, kept, part);
        }
        if (x < book.wide - 1) {
            spread(cell + 1, kept, part);
        }
        if (y > 0) {
            spread(cell - book.wide, kept, part);
        }
        if (y < book.high - 1) {
            spread(cell + book.wide, kept, part);
        }
    }

    long work(int w, int what) {
        Work work = workOf(w);
        switch (what) {
            case 0: return work.hand;
            case 1: return work.year;
            case 2: return work.paint.size();
            case 3: return kept(work.paint.keySet()).size();
            case 4: return parts(kept(work.paint.keySet())).size();
            default: throw new Refused(1);
        }
    }

    long paint(int w, int x, int y) {
        return workOf(w).paint.getOrDefault(cell(x, y), -2);
    }

    /** What it is judged, and where it breaks. */
    private int[] judge(Work w) {
        TreeSet<Integer> painted = new TreeSet<>(w.paint.keySet());
        int left = cells();
        for (int cell : painted) {
            left--;
            if (left < book.keeps) {
                return new int[] {1, cell};
            }
        }
        List<Set<Integer>> parts = parts(kept(painted));
        if (book.parts != 0 && parts.size() > book.parts) {
            return new int[] {2, parts.get(book.parts).iterator().next()};
        }
        for (int cell : painted) {
            for (Contract c : book.contracts) {
                if (c.cells.contains(cell) && c.from <= w.year && w.year <= c.until) {
                    return new int[] {3, cell};
                }
            }
        }
        for (int cell : painted) {
            if (book.colours.get(w.paint.get(cell)).since > w.year) {
                return new int[] {4, cell};
            }
        }
        return new int[] {0, -2};
    }

    long judged(int w) {
        return judge(workOf(w))[0];
    }

    long breaks(int w) {
        return judge(workOf(w))[1];
    }

    long forged() {
        told();
        for (int w = 0; w < now.works.size(); w++) {
            Work work = now.works.get(w);
            for (int colour : work.paint.values()) {
                if (book.colours.get(colour).since > work.year) {
                    return w;
                }
            }
        }
        return -2;
    }

    private Set<Integer> shownBy(int w) {
        Set<Integer> cells = new TreeSet<>();
        for (int cell = 0; cell < cells(); cell++) {
            List<Integer> down = layers(cell);
            if (!down.isEmpty() && down.get(0) == w) {
                cells.add(cell);
            }
        }
        return cells;
    }

    long left(int w) {
        workOf(w);
        return shownBy(w).size();
    }

    private boolean sure(int w, int later) {
        if (w >= later) {
            return false;
        }
        for (int cell : now.works.get(w).paint.keySet()) {
            if (now.works.get(later).paint.containsKey(cell)) {
                return true;
            }
        }
        for (int between = w + 1; between < later; between++) {
            if (sure(w, between) && sure(between, later)) {
                return true;
            }
        }
        return false;
    }

    long before(int w, int other) {
        workOf(w);
        workOf(other);
        if (w == other) {
            throw new Refused(1);
        }
        return sure(w, other) ? 1 : 0;
    }

    long untold() {
        told();
        int n = 0;
        for (int v = 0; v < now.works.size(); v++) {
            for (int w = 0; w < v; w++) {
                n += sure(w, v) ? 0 : 1;
            }
        }
        return n;
    }

    /** Every order in turn; what is asked of each is gathered on the way. */
    private final class AllOrders {
        final int n = now.works.size();
        final boolean[][] sure = new boolean[n][n];
        final int[] place = new int[n];
        final long[][] ahead = new long[n][n];
        final int[] earliest = new int[n];
        final int[] latest = new int[n];
        long count;

        AllOrders() {
            Arrays.fill(earliest, 99);
            Arrays.fill(latest, -1);
            for (int w = 0; w < n; w++) {
                for (int v = 0; v < n; v++) {
                    sure[w][v] = sure(w, v);
                }
            }
            Arrays.fill(place, -1);
            go(0);
        }

        private void go(int at) {
            if (at == n) {
                count++;
                for (int w = 0; w < n; w++) {
                    earliest[w] = Math.min(earliest[w], place[w]);
                    latest[w] = Math.max(latest[w], place[w]);
                    for (int v = 0; v < n; v++) {
                        ahead[w][v] += place[w] < place[v] ? 1 : 0;
                    }
                }
                return;
            }
            for (int w = 0; w < n; w++) {
                boolean free = place[w] < 0;
                for (int v = 0; v < n; v++) {
                    free &= !sure[v][w] || place[v] >= 0;
                }
                if (free) {
                    place[w] = at;
                    go(at + 1);
                    place[w] = -1;
                }
            }
        }
    }

    long orders() {
        told();
        return new AllOrders().count;
    }

    long placed(int w, boolean latest) {
        workOf(w);
        AllOrders all = new AllOrders();
        return latest ? all.latest[w] : all.earliest[w];
    }

    long ahead(int w, int other) {
        workOf(w);
        workOf(other);
        if (w == other) {
            throw new Refused(1);
        }
        return new AllOrders().ahead[w][other];
    }

    // ---- what is wanted

    long wanted(int x, int y) {
        int cell = cell(x, y);
        return book.wanted.getOrDefault(cell, -2);
    }

    private Set<Integer> alikeCells() {
        Set<Integer> cells = new TreeSet<>();
        for (Map.Entry<Integer, Integer> e : book.wanted.entrySet()) {
            if (shown(e.getKey()) == e.getValue()) {
                cells.add(e.getKey());
            }
        }
        return cells;
    }

    long alike() {
        told();
        return alikeCells().size();
    }

    private static Set<Integer> cellsOf(int bits) {
        Set<Integer> cells = new TreeSet<>();
        for (int i = 0; i < 24; i++) {
            if ((bits >> i & 1) == 1) {
                cells.add(i);
            }
        }
        return cells;
    }

    /** The work that paints those cells in that year as BEST says; null if it can't be. */
    private Work workAhead(int bits, int year, Contract without) {
        Work w = new Work();
        w.year = year;
        int any = -1;
        for (int c = 0; c < book.colours.size(); c++) {
            any = any < 0 && book.colours.get(c).since <= year ? c : any;
        }
        for (int cell : cellsOf(bits)) {
            Integer wanted = book.wanted.get(cell);
            int colour = wanted != null && book.colours.get(wanted).since <= year ? wanted : any;
            if (colour < 0) {
                return null;
            }
            w.paint.put(cell, colour);
        }
        List<Contract> all = book.contracts;
        book.contracts = new ArrayList<>(all);
        book.contracts.remove(without);
        int judged = judge(w)[0];
        book.contracts = all;
        return judged == 0 ? w : null;
    }

    private Map<Integer, Work> worksAhead(int year, Contract without) {
        Map<Integer, Work> found = new java.util.TreeMap<>();
        for (int bits = 0; bits < 1 << cells(); bits++) {
            Work w = workAhead(bits, year, without);
            if (w != null) {
                found.put(bits, w);
            }
        }
        return found;
    }

    private Set<Integer> behind(Set<Integer> alike, Work w) {
        Set<Integer> then = new TreeSet<>(alike);
        for (Map.Entry<Integer, Integer> e : w.paint.entrySet()) {
            then.remove(e.getKey());
            if (e.getValue().equals(book.wanted.get(e.getKey()))) {
                then.add(e.getKey());
            }
        }
        return then;
    }

    private int[] bestOf(int year, Contract without) {
        int[] best = null;
        for (Map.Entry<Integer, Work> e : worksAhead(year, without).entrySet()) {
            int[] one = {behind(alikeCells(), e.getValue()).size(), e.getValue().paint.size(), e.getKey()};
            if (best == null || one[0] > best[0] || one[0] == best[0] && one[1] < best[1]) {
                best = one;
            }
        }
        return best;
    }

    long best(int year, int what) {
        told();
        if (what < 0 || what > 2) {
            throw new Refused(1);
        }
        year(year);
        small();
        return bestOf(year, null)[what];
    }

    /** Alike cells as bits; the works that can come, as the cells they paint and those they paint as is wanted. */
    private final class Ahead {
        final int[] bits;
        final int[] right;
        final int goal = bitsOf(book.wanted.keySet());
        /** By alike cells: how many works lead to the goal, 99 if none do. */
        final int[] far = new int[1 << cells()];

        Ahead(int year) {
            Map<Integer, Work> works = worksAhead(year, null);
            bits = new int[works.size()];
            right = new int[works.size()];
            int i = 0;
            for (Map.Entry<Integer, Work> e : works.entrySet()) {
                bits[i] = e.getKey();
                right[i] = bitsOf(behind(new TreeSet<>(), e.getValue()));
                i++;
            }
        }

        int then(int alike, int i) {
            return alike & ~bits[i] | right[i];
        }

        void measure() {
            Arrays.fill(far, 99);
            far[goal] = 0;
            boolean more = true;
            while (more) {
                more = false;
                for (int alike = goal; ; alike = (alike - 1) & goal) {
                    for (int i = 0; i < bits.length; i++) {
                        if (far[then(alike, i)] + 1 < far[alike]) {
                            far[alike] = far[then(alike, i)] + 1;
                            more = true;
                        }
                    }
                    if (alike == 0) {
                        break;
                    }
                }
            }
        }

        int reach(int from) {
            boolean[] seen = new boolean[1 << cells()];
            ArrayDeque<Integer> queue = new ArrayDeque<>();
            seen[from] = true;
            queue.add(from);
            int most = 0;
            while (!queue.isEmpty()) {
                int alike = queue.remove();
                most = Math.max(most, Integer.bitCount(alike));
                for (int i = 0; i < bits.length; i++) {
                    int then = then(alike, i);
                    if (!seen[then]) {
                        seen[then] = true;
                        queue.add(then);
                    }
                }
            }
            return most;
        }
    }

    private static int bitsOf(Set<Integer> cells) {
        int bits = 0;
        for (int cell : cells) {
            bits |= 1 << cell;
        }
        return bits;
    }

    long need(int year) {
        told();
        year(year);
        small();
        Ahead ahead = new Ahead(year);
        ahead.measure();
        int need = ahead.far[bitsOf(alikeCells())];
        return need == 99 ? -2 : need;
    }

    long step(int year, int i) {
        told();
        if (i < 0) {
            throw new Refused(1);
        }
        year(year);
        small();
        Ahead ahead = new Ahead(year);
        ahead.measure();
        int alike = bitsOf(alikeCells());
        if (ahead.far[alike] == 99) {
            throw new Refused(6);
        }
        if (i >= ahead.far[alike]) {
            throw new Refused(1);
        }
        int bits = -1;
        for (int turn = 0; turn <= i; turn++) {
            int w = 0;
            while (ahead.far[ahead.then(alike, w)] != ahead.far[alike] - 1) {
                w++;
            }
            bits = ahead.bits[w];
            alike = ahead.then(alike, w);
        }
        return bits;
    }

    long reach(int year) {
        told();
        year(year);
        small();
        return new Ahead(year).reach(bitsOf(alikeCells()));
    }

    long least(int w, int year) {
        workOf(w);
        year(year);
        small();
        int least = 99;
        for (Work ahead : worksAhead(year, null).values()) {
            Set<Integer> stay = shownBy(w);
            stay.removeAll(ahead.paint.keySet());
            least = Math.min(least, stay.size());
        }
        return least;
    }

    long freed(int contract, int year) {
        if (book == null || contract < 0 || contract >= book.contracts.size()) {
            throw new Refused(1);
        }
        year(year);
        small();
        return bestOf(year, book.contracts.get(contract))[0] - bestOf(year, null)[0];
    }

    // ---- acts

    private void act() {
        past.add(now.copy());
        if (past.size() > 8) {
            past.remove(0);
        }
    }

    long begin(int hand, int year) {
        if (book == null || hand < 0 || hand >= book.hands.size()) {
            throw new Refused(1);
        }
        year(year);
        if (!now.works.isEmpty() && year < now.works.get(now.works.size() - 1).year) {
            throw new Refused(2);
        }
        if (now.works.size() == 12) {
            throw new Refused(3);
        }
        if (now.wet != null) {
            throw new Refused(5);
        }
        act();
        now.wet = new Work();
        now.wet.hand = hand;
        now.wet.year = year;
        return 1;
    }

    long patch(int colour, int x, int y, int right, int low) {
        if (book == null || colour < 0 || colour >= book.colours.size()) {
            throw new Refused(1);
        }
        if (x < 0 || y < 0 || right < x || low < y || right >= book.wide || low >= book.high) {
            throw new Refused(2);
        }
        wetOne();
        act();
        for (int cell : box(book, x, y, right, low)) {
            now.wet.paint.put(cell, colour);
        }
        return 1;
    }

    private Work wetOne() {
        if (now.wet == null) {
            throw new Refused(6);
        }
        return now.wet;
    }

    long dry() {
        if (judge(wetOne())[0] != 0) {
            throw new Refused(5);
        }
        act();
        now.works.add(now.wet);
        now.wet = null;
        return now.works.size() - 1;
    }

    long wipe() {
        wetOne();
        act();
        now.wet = null;
        return 1;
    }

    long wet(int x, int y) {
        int cell = cell(x, y);
        return wetOne().paint.getOrDefault(cell, -2);
    }

    long wetJudged() {
        return judge(wetOne())[0];
    }

    long scrape(int x, int y) {
        int cell = cell(x, y);
        List<Integer> down = layers(cell);
        if (down.isEmpty()) {
            throw new Refused(6);
        }
        act();
        now.works.get(down.get(0)).paint.remove(cell);
        return 1;
    }

    long thief(int year) {
        told();
        year(year);
        Set<Integer> gone = new TreeSet<>();
        for (Work w : now.works) {
            if (w.year > year) {
                gone.addAll(w.paint.keySet());
            }
        }
        if (gone.isEmpty()) {
            throw new Refused(6);
        }
        act();
        for (Work w : now.works) {
            if (w.year > year) {
                w.paint.clear();
            }
        }
        return gone.size();
    }

    long undo() {
        if (past.isEmpty()) {
            throw new Refused(6);
        }
        now = past.remove(past.size() - 1);
        return 1;
    }

    long image() {
        told();
        if (images.size() == 3) {
            throw new Refused(3);
        }
        images.add(now.copy());
        return images.size() - 1;
    }

    long back(int image) {
        if (image < 0 || image >= images.size()) {
            throw new Refused(1);
        }
        now = images.get(image).copy();
        past.clear();
        return 1;
    }

    // ---- what is told

    /** -1 where it throws. */
    int led(int i) {
        List<Integer> bare = new ArrayList<>();
        for (int cell = 0; book != null && cell < cells(); cell++) {
            if (layers(cell).isEmpty()) {
                bare.add(cell);
            }
        }
        return i >= 0 && i < bare.size() ? bare.get(i) : -1;
    }

    int size(int what) {
        Book b = book == null ? new Book() : book;
        int[] all = {b.wide, b.high, b.keeps, b.parts, b.colours.size(), b.hands.size(), now.works.size(),
            b.contracts.size(), b.wanted.size(), now.wet == null ? 0 : 1, past.size(), images.size(), tape.length()};
        return what >= 0 && what < all.length ? all[what] : -1;
    }
}
