import java.util.NoSuchElementException;

/**
 * What the tests of bounds share. Each bound is looked at from both its sides:
 * the last call that is taken, the first that is refused. What a refused call
 * leaves is compared with what an object of the same start shows without it, on
 * new objects each time, as looking closely (undoing, going back) changes them.
 */
final class Bounds {
    interface Start {
        PaintedOver make();
    }

    interface Call {
        long on(PaintedOver x);
    }

    interface Act {
        boolean on(PaintedOver x);
    }

    static final int NONE = PaintedOver.NONE;
    static final int BARE = -2;

    /** Cells 0 1 2 over 3 4 5: red, blue over red, blue, red, red, bare. */
    static final String WALL = "wall wide 3 high 2 keeps 1 parts 2;"
        + "colour red thick 2 fades 0 since 0;colour blue thick 1 fades 10 since 20;hand ann,bob;"
        + "work ann year 10 red 0,0 to 1,1;work bob year 25 blue 1,0 to 2,0;"
        + "contract 0,0 to 0,0 from 26 until 40;want blue 0,0 to 1,0,red 2,1 to 2,1";
    static final String ONE_CELL = "wall wide 1 high 1 keeps 0 parts 0;";
    static final String COLOUR = "colour c thick 1 fades 0 since 0;";
    static final String HAND = "hand h;";

    private static final String[] LOOKS = {"what stands", "what is undone", "image 0", "image 1", "image 2", "the tape", "the fault"};

    private final Check check = new Check();

    /** A wall on which all is there that a call could change: one is wet, acts, images, a fault, bytes on the tape. */
    static PaintedOver busy() {
        PaintedOver x = Check.wall(WALL);
        x.image();
        x.begin(1, 30);
        x.patch(1, 2, 1, 2, 1);
        x.image();
        x.patch(0, 1, 1, 1, 1);
        x.scrape(0, 1);
        Check.tell(x, "hand x,x");
        Check.feedText(x, "wall wide 1 high 1 keeps 0 parts 0;hand");
        return x;
    }

    static Start wall(String text) {
        return () -> Check.wall(text);
    }

    void due(String what, long got, long want) {
        check.due(what, got, want);
    }

    /** The call is taken: its trouble is 0, whatever was refused ahead of it. */
    void taken(String what, Start start, Call call, long answer) {
        PaintedOver x = start.make();
        x.area(-1);
        check.due(what, call.on(x), answer);
        check.due(what + ", trouble()", x.trouble(), 0);
        check.due(what + ", where()", x.where(), NONE);
    }

    /** The call is taken, and as it only asks, it changes nothing. */
    void asked(String what, Start start, Call call, long answer) {
        taken(what, start, call, answer);
        unchanged(what, start, call);
    }

    void granted(String what, Start start, Act act) {
        taken(what, start, bitOf(act), 1);
    }

    void refused(String what, Start start, Call call, int why) {
        no(what, start, call, NONE, why);
    }

    void denied(String what, Start start, Act act, int why) {
        no(what, start, bitOf(act), 0, why);
    }

    private static Call bitOf(Act act) {
        return x -> act.on(x) ? 1 : 0;
    }

    private void no(String what, Start start, Call call, long answer, int why) {
        PaintedOver x = start.make();
        check.due(what, call.on(x), answer);
        check.due(what + ", trouble()", x.trouble(), why);
        check.due(what + ", where()", x.where(), NONE);
        unchanged(what, start, call);
    }

    void unchanged(String what, Start start, Call call) {
        for (int look = 0; look < LOOKS.length; look++) {
            PaintedOver x = start.make();
            call.on(x);
            same(what + " leaves " + LOOKS[look], seen(x, look), seen(start.make(), look));
        }
    }

    /** An act is one that can be undone, and then all works are as they were. */
    void undone(String what, Start start, Call act) {
        PaintedOver x = start.make();
        int acts = x.size(10);
        act.on(x);
        check.due(what + ", acts", x.size(10), Math.min(8, acts + 1));
        check.due(what + ", undo()", x.undo() ? 1 : 0, 1);
        same(what + ", undone", walls(x), walls(start.make()));
    }

    void same(String what, String got, String want) {
        if (!got.equals(want)) {
            System.out.println(what + ":\n  " + got + "\n  " + want);
        }
        check.due(what, got.equals(want) ? 1 : 0, 1);
    }

    private static String seen(PaintedOver x, int look) {
        switch (look) {
            case 0: return all(x);
            case 1: return past(x);
            case 2: case 3: case 4: return x.back(look - 2) + walls(x);
            case 5: return x.size(12) + " " + x.book(x.size(12)) + " " + x.fault() + " " + x.where();
            default: return "fault " + x.fault();
        }
    }

    /** All sizes but the tape's, and all that the works are. */
    static String all(PaintedOver x) {
        StringBuilder s = new StringBuilder();
        for (int what = 0; what < 12; what++) {
            s.append(x.size(what)).append(' ');
        }
        s.append("orders ").append(x.orders()).append(" forged ").append(x.forged()).append(" alike ").append(x.alike());
        s.append(" best ").append(x.best(30, 2)).append(" freed ").append(x.freed(0, 30)).append(" led ");
        for (int i = 0; i < 3; i++) {
            s.append(Check.ledOrNone(x, i)).append(' ');
        }
        return s.append(walls(x)).toString();
    }

    /** What each cell shows, is wanted to, has wet, has by each work; each work's hand and year. */
    static String walls(PaintedOver x) {
        StringBuilder s = new StringBuilder();
        s.append(" works ").append(x.size(6)).append(" wet ").append(x.size(9)).append(':');
        for (int cell = 0; cell < x.size(0) * x.size(1); cell++) {
            int px = cell % x.size(0);
            int py = cell / x.size(0);
            s.append(" [").append(x.shows(px, py)).append(' ').append(x.wanted(px, py)).append(' ').append(x.wet(px, py));
            for (int w = 0; w < x.size(6); w++) {
                s.append(' ').append(x.paint(w, px, py));
            }
            s.append(']');
        }
        for (int w = 0; w < x.size(6); w++) {
            s.append(" (").append(x.work(w, 0)).append(' ').append(x.work(w, 1)).append(')');
        }
        return s.append(" wet one ").append(x.wetJudged()).toString();
    }

    private static String past(PaintedOver x) {
        StringBuilder s = new StringBuilder();
        for (int turn = 0; turn < 10; turn++) {
            s.append(x.size(10)).append(x.undo()).append(walls(x)).append('\n');
        }
        return s.toString();
    }

    /** The call throws what led() throws, and its trouble stays. */
    void thrown(String what, Start start, Call call) {
        PaintedOver x = start.make();
        int trouble = x.trouble();
        int place = x.where();
        int thrown = 0;
        try {
            call.on(x);
        } catch (NoSuchElementException e) {
            thrown = 1;
        }
        check.due(what + " throws", thrown, 1);
        check.due(what + ", trouble()", x.trouble(), trouble);
        check.due(what + ", where()", x.where(), place);
    }

    void end(String name) {
        check.end(name);
    }
}
