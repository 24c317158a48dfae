import java.lang.reflect.InvocationTargetException;
import java.lang.reflect.Method;
import java.util.Arrays;
import java.util.Comparator;
import java.util.NoSuchElementException;

/** Any numbers at any time: nothing is ever thrown but what led() throws, and a call refused changes nothing. */
public final class WildTest {
    private static final int[] NUMBERS = {
        Integer.MIN_VALUE, Integer.MIN_VALUE + 1, -2, -1, 0, 1, 2, 3, 4, 5, 6, 8, 11, 12, 13, 24, 31, 32, 900, 999, 1000,
        Integer.MAX_VALUE - 1, Integer.MAX_VALUE,
    };
    private static final String[] TEXTS = {
        null,
        "wall wide 1 high 1 keeps 0 parts 0",
        "wall wide 4 high 3 keeps 3 parts 2;colour c thick 9 fades 1 since 0;colour d thick 9 fades 999 since 999;hand h,i;"
            + "work h year 0 c 0,0 to 3,2;work i year 999 d 1,0 to 2,2;want d 0,0 to 3,2;contract 1,1 to 2,2 from 0 until 999",
        "wall wide 6 high 4 keeps 0 parts 9;colour c thick 9 fades 1 since 0;hand h,i;want c 0,0 to 5,3;"
            + "contract 1,1 to 2,2 from 0 until 999;work h year 0 c 5,3 to 5,3",
    };

    private final Check check = new Check();
    private final Method[] methods = PaintedOver.class.getMethods();
    private long drawn = 2463534242L;

    public static void main(String[] args) throws IllegalAccessException {
        WildTest test = new WildTest();
        Arrays.sort(test.methods, Comparator.comparing(Method::getName));
        for (int i = 0; i < 400; i++) {
            test.run(TEXTS[i % TEXTS.length]);
        }
        test.check.end("WildTest");
    }

    private int draw(int bound) {
        drawn ^= drawn << 13;
        drawn ^= drawn >>> 7;
        drawn ^= drawn << 17;
        return (int) Long.remainderUnsigned(drawn, bound);
    }

    private void run(String text) throws IllegalAccessException {
        PaintedOver x = text == null ? new PaintedOver() : Check.wall(text);
        for (int calls = 0; calls < 400; calls++) {
            Method m = methods[draw(methods.length)];
            boolean isOwn = m.getDeclaringClass() == PaintedOver.class;
            if (isOwn && !(m.getName().equals("book") && draw(20) > 0)) {
                call(x, m);
            }
        }
    }

    private void call(PaintedOver x, Method m) throws IllegalAccessException {
        Object[] arguments = new Object[m.getParameterCount()];
        for (int i = 0; i < arguments.length; i++) {
            int number = draw(3) == 0 ? NUMBERS[draw(NUMBERS.length)] : draw(4);
            arguments[i] = m.getParameterTypes()[i] == boolean.class ? (Object) (number > 1) : (Object) number;
        }
        String before = sizes(x);
        String name = m.getName() + Arrays.toString(arguments);
        try {
            m.invoke(x, arguments);
        } catch (InvocationTargetException e) {
            boolean due = m.getName().equals("led") && e.getCause().getClass() == NoSuchElementException.class;
            check.due(name + " threw " + e.getCause(), due, true);
        }
        boolean refused = x.trouble() != 0 && x.trouble() != 4 && !m.getName().equals("feed");
        check.due(name + " was refused and changed", refused && !before.equals(sizes(x)), false);
    }

    private static String sizes(PaintedOver x) {
        StringBuilder s = new StringBuilder();
        for (int what = 0; what < 13; what++) {
            s.append(x.size(what)).append(' ');
        }
        return s.toString();
    }
}
