/**
 * Long runs of calls, each answer and its trouble held against the Model's.
 * The runs are drawn by a counter of this file's own: they are always the same.
 */
public final class ModelTest {
    private static final int BOOKS = 1500;
    private static final int CALLS = 240;
    private static final int WIDE_WALLS = 150;

    private final Check check = new Check();
    private long drawn = 88172645463325252L;

    public static void main(String[] args) {
        ModelTest test = new ModelTest();
        for (int i = 0; i < BOOKS; i++) {
            test.run(i);
        }
        for (int i = 0; i < WIDE_WALLS; i++) {
            test.wideWall(i);
        }
        test.check.end("ModelTest");
    }

    private int draw(int bound) {
        drawn ^= drawn << 13;
        drawn ^= drawn >>> 7;
        drawn ^= drawn << 17;
        return (int) Long.remainderUnsigned(drawn, bound);
    }

    private int draw(int low, int high) {
        return low + draw(high - low + 1);
    }

    // ---- texts

    private String box(int wide, int high) {
        int x = draw(wide);
        int y = draw(high);
        return x + "," + y + " to " + draw(x, wide - 1) + "," + draw(y, high - 1);
    }

    private String patches(int colours, int wide, int high) {
        StringBuilder s = new StringBuilder();
        int many = draw(1, 4);
        for (int i = 0; i < many; i++) {
            s.append(i == 0 ? "" : ",").append((char) ('a' + draw(colours))).append(' ').append(box(wide, high));
        }
        return s.toString();
    }

    private String text(int most) {
        int wide = draw(1, 6);
        int high = draw(1, 4);
        while (wide * high > most) {
            wide = draw(1, 6);
            high = draw(1, 4);
        }
        int colours = draw(1, 5);
        int hands = draw(1, 5);
        StringBuilder s = new StringBuilder();
        s.append("wall wide ").append(wide).append(" high ").append(high).append(" keeps ");
        s.append(draw(0, draw(0, wide * high))).append(" parts ").append(draw(0, 3));
        for (int i = 0; i < colours; i++) {
            s.append(";colour ").append((char) ('a' + i)).append(" thick ").append(draw(0, 9)).append(" fades ");
            s.append(draw(3) == 0 ? 0 : draw(0, 40)).append(" since ").append(draw(2) == 0 ? 0 : draw(0, 60));
        }
        s.append(";hand ");
        for (int i = 0; i < hands; i++) {
            s.append(i == 0 ? "" : ", ").append((char) ('p' + i));
        }
        if (draw(8) > 0) {
            s.append(";want ").append(patches(colours, wide, high));
        }
        int contracts = draw(0, 2);
        for (int i = 0; i < contracts; i++) {
            int from = draw(0, 60);
            s.append(";contract ").append(box(wide, high)).append(" from ").append(from).append(" until ").append(draw(from, 90));
        }
        int year = 0;
        int works = draw(0, 6);
        for (int i = 0; i < works; i++) {
            year = draw(year, year + 12);
            String work = ";work " + (char) ('p' + draw(hands)) + " year " + year + " " + patches(colours, wide, high);
            if (s.length() + work.length() <= 900) {
                s.append(work);
            }
        }
        return s.toString();
    }

    private static final String[] SPOILS = {
        "", " ", ";", ",", "wall", "colour", "hand", "work", "contract", "want", "a", "b", "p", "q", "zz", "wide", "to",
        "0", "1", "2", "9", "10", "99", "1000", "abcdefghi", "A", "-", "since", "year", ";hand x", ",a 0,0 to 0,0",
        ";contract 0,0 to 0,0 from 1 until 2", ";work p year 99 a 0,0 to 0,0", ";colour x thick 1 fades 1 since 1", ",x",
    };

    private String spoiled(String text) {
        StringBuilder s = new StringBuilder(text);
        int times = draw(1, 3);
        for (int i = 0; i < times; i++) {
            int at = draw(s.length() + 1);
            int end = Math.min(s.length(), at + draw(0, 4));
            String spoil = SPOILS[draw(SPOILS.length)];
            int twice = draw(6) == 0 ? draw(1, 10) : 1;
            s.replace(at, end, spoil.repeat(twice));
        }
        return s.length() > 900 ? s.substring(0, 900) : s.toString();
    }

    // ---- runs

    private void run(int number) {
        PaintedOver x = new PaintedOver();
        Model m = new Model();
        StringBuilder told = new StringBuilder("run " + number + ": ");
        int calls = 0;
        for (int tries = 0; tries < 4; tries++) {
            String text = spoiled(text(24));
            tell(x, m, text, told);
        }
        tell(x, m, text(draw(3) == 0 ? 24 : 6), told);
        while (calls < CALLS) {
            one(x, m, told);
            calls++;
            if (draw(150) == 0) {
                tell(x, m, draw(2) == 0 ? text(6) : spoiled(text(6)), told);
            }
        }
    }

    /** What can come on walls of 8 to 12 cells, most of them wanted, by works that keep much. */
    private void wideWall(int number) {
        int[][] walls = {{4, 2}, {3, 3}, {5, 2}, {6, 2}, {4, 3}};
        int[] wall = walls[draw(100) < 90 ? draw(3) : draw(3, 4)];
        int cells = wall[0] * wall[1];
        StringBuilder text = new StringBuilder();
        text.append("wall wide ").append(wall[0]).append(" high ").append(wall[1]).append(" keeps ");
        text.append(draw(cells / 2, cells - 1)).append(" parts ").append(draw(4));
        text.append(";colour a thick 0 fades 0 since 0;colour b thick 0 fades 0 since ").append(draw(20)).append(";hand h;want a 0,0 to ");
        text.append(wall[0] - 1).append(",").append(wall[1] - 1).append(",b ").append(box(wall[0], wall[1]));
        if (draw(2) == 0) {
            text.append(";work h year 9 b ").append(box(wall[0], wall[1]));
        }
        text.append(";contract ").append(box(wall[0], wall[1])).append(" from 5 until 12");
        PaintedOver x = new PaintedOver();
        Model m = new Model();
        StringBuilder told = new StringBuilder("wide wall " + number + ": ");
        tell(x, m, text.toString(), told);
        int year = draw(25);
        same(x, m, told, "need " + year, x.need(year), answer(m, () -> m.need(year)));
        long steps = m.book == null ? 0 : m.need(year);
        for (int i = 0; i < steps; i++) {
            int turn = i;
            same(x, m, told, "step " + year + " " + i, x.step(year, i), answer(m, () -> m.step(year, turn)));
        }
        same(x, m, told, "reach " + year, x.reach(year), answer(m, () -> m.reach(year)));
        same(x, m, told, "best " + year, x.best(year, 2), answer(m, () -> m.best(year, 2)));
        same(x, m, told, "freed 0 " + year, x.freed(0, year), answer(m, () -> m.freed(0, year)));
        same(x, m, told, "least 0 " + year, x.least(0, year), answer(m, () -> m.least(0, year)));
    }

    private void tell(PaintedOver x, Model m, String text, StringBuilder told) {
        for (int start = 0; start < text.length(); start += 20) {
            int[] n = Check.twentyBytes(text, start);
            check.due("feed", x.feed(n[0], n[1], n[2], n[3], n[4]), m.feed(n));
        }
        told.append("[").append(text).append("] ");
        int n = draw(20) == 0 ? draw(-2, 910) : text.length();
        same(x, m, told, "book(" + n + ")", x.book(n), answer(m, () -> m.book(n)));
        check.due(told + "fault()", x.fault(), m.fault());
        check.due(told + "where()", x.where(), m.where());
    }

    private interface Call {
        long answer();
    }

    private static long answer(Model m, Call call) {
        try {
            long got = call.answer();
            m.trouble = 0;
            return got;
        } catch (Model.Refused e) {
            m.trouble = e.why;
            return -1;
        }
    }

    private static long truth(Model m, Call call) {
        return Math.max(0, answer(m, call));
    }

    private void same(PaintedOver x, Model m, StringBuilder told, String call, long got, long want) {
        if (got != want || x.trouble() != m.trouble) {
            check.due(told + call, got, want);
            check.due(told + call + " trouble()", x.trouble(), m.trouble);
        } else {
            check.due(call, got, want);
        }
    }

    private static long bit(boolean answer) {
        return answer ? 1 : 0;
    }

    /** A number that mostly is one, and is now and then just outside. */
    private int around(int size) {
        return draw(12) == 0 ? draw(-1, size) : draw(Math.max(1, size));
    }

    private int aYear() {
        return draw(25) == 0 ? new int[] {-1, 0, 999, 1000}[draw(4)] : draw(0, 110);
    }

    private void one(PaintedOver x, Model m, StringBuilder told) {
        int px = around(m.size(0));
        int py = around(m.size(1));
        int w = around(m.size(6));
        int v = around(m.size(6));
        int year = aYear();
        int i = draw(40);
        int small = around(4);
        int sizeOf = draw(-1, 13);
        String at = "(" + px + "," + py + ")";
        switch (i) {
            case 0: same(x, m, told, "shows" + at, x.shows(px, py), answer(m, () -> m.shows(px, py))); break;
            case 1: same(x, m, told, "whose" + at, x.whose(px, py), answer(m, () -> m.whose(px, py))); break;
            case 2: same(x, m, told, "was" + at + year, x.was(px, py, year), answer(m, () -> m.was(px, py, year))); break;
            case 3: same(x, m, told, "scraped" + at + small, x.scraped(px, py, small), answer(m, () -> m.scraped(px, py, small))); break;
            case 4: same(x, m, told, "deep" + at, x.deep(px, py), answer(m, () -> m.deep(px, py))); break;
            case 5: same(x, m, told, "relief" + at, x.relief(px, py), answer(m, () -> m.relief(px, py))); break;
            case 6: same(x, m, told, "light" + at, x.light(px, py), answer(m, () -> m.light(px, py))); break;
            case 7: same(x, m, told, "area " + small, x.area(small), answer(m, () -> m.area(small))); break;
            case 8: same(x, m, told, "share " + small, x.share(small), answer(m, () -> m.share(small))); break;
            case 9: same(x, m, told, "old " + year, x.old(year), answer(m, () -> m.old(year))); break;
            case 10: same(x, m, told, "changes" + at, x.changes(px, py), answer(m, () -> m.changes(px, py))); break;
            case 11: same(x, m, told, "work " + w + " " + small, x.work(w, small), answer(m, () -> m.work(w, small))); break;
            case 12: same(x, m, told, "work " + w + " 4", x.work(w, 4), answer(m, () -> m.work(w, 4))); break;
            case 13: same(x, m, told, "paint " + w + at, x.paint(w, px, py), answer(m, () -> m.paint(w, px, py))); break;
            case 14: same(x, m, told, "judged " + w, x.judged(w), answer(m, () -> m.judged(w))); break;
            case 15: same(x, m, told, "breaks " + w, x.breaks(w), answer(m, () -> m.breaks(w))); break;
            case 16: same(x, m, told, "forged", x.forged(), answer(m, m::forged)); break;
            case 17: same(x, m, told, "left " + w, x.left(w), answer(m, () -> m.left(w))); break;
            case 18: same(x, m, told, "before " + w + " " + v, x.before(w, v), answer(m, () -> m.before(w, v))); break;
            case 19: same(x, m, told, "untold", x.untold(), answer(m, m::untold)); break;
            case 20: case 21: case 22: inOrders(x, m, told, i, w, v); break;
            case 23: same(x, m, told, "wanted" + at, x.wanted(px, py), answer(m, () -> m.wanted(px, py))); break;
            case 24: same(x, m, told, "alike", x.alike(), answer(m, m::alike)); break;
            case 25: case 26: case 27: case 28: case 29: case 30: toCome(x, m, told, i, w, year, small); break;
            case 31: same(x, m, told, "wet" + at, x.wet(px, py), answer(m, () -> m.wet(px, py))); break;
            case 32: same(x, m, told, "wetJudged", x.wetJudged(), answer(m, m::wetJudged)); break;
            case 33:
                check.due(told + "led " + v, Check.ledOrNone(x, v), m.led(v));
                check.due(told + "size " + sizeOf, x.size(sizeOf), m.size(sizeOf));
                break;
            default: act(x, m, told);
        }
    }

    private void inOrders(PaintedOver x, Model m, StringBuilder told, int i, int w, int v) {
        if (m.size(6) > 7) {
            return;
        }
        if (i == 20) {
            same(x, m, told, "orders", x.orders(), answer(m, m::orders));
        } else if (i == 21) {
            same(x, m, told, "placed " + w, x.placed(w, false), answer(m, () -> m.placed(w, false)));
            same(x, m, told, "placed " + w + " latest", x.placed(w, true), answer(m, () -> m.placed(w, true)));
        } else {
            same(x, m, told, "ahead " + w + " " + v, x.ahead(w, v), answer(m, () -> m.ahead(w, v)));
        }
    }

    private void toCome(PaintedOver x, Model m, StringBuilder told, int i, int w, int year, int small) {
        int cells = m.size(0) * m.size(1);
        if (cells > 8 && cells <= 12 && draw(30) > 0) {
            return;
        }
        int what = around(3);
        switch (i) {
            case 25: same(x, m, told, "best " + year + " " + what, x.best(year, what), answer(m, () -> m.best(year, what))); break;
            case 26: same(x, m, told, "need " + year, x.need(year), answer(m, () -> m.need(year))); break;
            case 27: same(x, m, told, "step " + year + " " + small, x.step(year, small), answer(m, () -> m.step(year, small))); break;
            case 28: same(x, m, told, "reach " + year, x.reach(year), answer(m, () -> m.reach(year))); break;
            case 29: same(x, m, told, "least " + w + " " + year, x.least(w, year), answer(m, () -> m.least(w, year))); break;
            default: same(x, m, told, "freed " + what + " " + year, x.freed(what, year), answer(m, () -> m.freed(what, year)));
        }
    }

    private void act(PaintedOver x, Model m, StringBuilder told) {
        int px = around(m.size(0));
        int py = around(m.size(1));
        int right = draw(px, px + 1);
        int low = draw(py, py + 1);
        int colour = around(m.size(4));
        int hand = around(m.size(5));
        int last = m.now.works.isEmpty() ? 0 : m.now.works.get(m.now.works.size() - 1).year;
        int year = draw(10) == 0 ? aYear() : draw(Math.max(0, last - 1), last + 5);
        int image = around(m.size(11));
        String name;
        long got;
        long want;
        switch (draw(16)) {
            case 0: case 1: case 2:
                name = "begin " + hand + " " + year;
                got = bit(x.begin(hand, year));
                want = truth(m, () -> m.begin(hand, year));
                break;
            case 3: case 4: case 5: case 6:
                name = "patch " + colour + " " + px + "," + py + " " + right + "," + low;
                got = bit(x.patch(colour, px, py, right, low));
                want = truth(m, () -> m.patch(colour, px, py, right, low));
                break;
            case 7: case 8: case 9:
                name = "dry";
                got = x.dry();
                want = answer(m, m::dry);
                break;
            case 10:
                name = "wipe";
                got = bit(x.wipe());
                want = truth(m, m::wipe);
                break;
            case 11:
                name = "scrape " + px + "," + py;
                got = bit(x.scrape(px, py));
                want = truth(m, () -> m.scrape(px, py));
                break;
            case 12:
                name = "thief " + year;
                got = x.thief(year);
                want = answer(m, () -> m.thief(year));
                break;
            case 13: case 14:
                name = "undo";
                got = bit(x.undo());
                want = truth(m, m::undo);
                break;
            default:
                if (draw(2) == 0) {
                    name = "image";
                    got = x.image();
                    want = answer(m, m::image);
                } else {
                    name = "back " + image;
                    got = bit(x.back(image));
                    want = truth(m, () -> m.back(image));
                }
        }
        same(x, m, told, name, got, want);
        told.append(name).append("; ");
    }
}
