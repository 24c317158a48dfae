import java.util.NoSuchElementException;

/** What the tests share: texts onto the tape, answers counted, an exit code. */
final class Check {
    private int wrong;
    private int seen;

    void due(String call, long got, long want) {
        seen++;
        if (got != want) {
            wrong++;
            System.out.println(call + " answered " + got + ", due is " + want);
        }
    }

    void due(String call, boolean got, boolean want) {
        due(call, got ? 1 : 0, want ? 1 : 0);
    }

    /** led(i), where NONE stands for the exception. */
    static int ledOrNone(PaintedOver x, int i) {
        try {
            return x.led(i);
        } catch (NoSuchElementException e) {
            return PaintedOver.NONE;
        }
    }

    /** Feeds a text in calls of twenty bytes, with blanks behind it. */
    static void feedText(PaintedOver x, String text) {
        for (int start = 0; start < text.length(); start += 20) {
            int[] numbers = twentyBytes(text, start);
            x.feed(numbers[0], numbers[1], numbers[2], numbers[3], numbers[4]);
        }
    }

    static int[] twentyBytes(String text, int start) {
        int[] numbers = new int[5];
        for (int i = 0; i < 20; i++) {
            int b = start + i < text.length() ? text.charAt(start + i) : ' ';
            numbers[i / 4] = numbers[i / 4] << 8 | b & 255;
        }
        return numbers;
    }

    static int tell(PaintedOver x, String text) {
        feedText(x, text);
        return x.book(text.length());
    }

    static PaintedOver wall(String text) {
        PaintedOver x = new PaintedOver();
        if (tell(x, text) < 0) {
            throw new IllegalStateException("fault " + x.fault() + " at " + x.where() + " of " + text);
        }
        return x;
    }

    void end(String name) {
        System.out.println(name + ": " + seen + " answers, " + wrong + " not as due");
        if (wrong > 0 || seen == 0) {
            System.exit(1);
        }
    }
}
