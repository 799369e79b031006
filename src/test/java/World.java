import java.lang.reflect.InvocationTargetException;
import java.lang.reflect.Method;
import java.util.ArrayList;
import java.util.Arrays;
import java.util.List;

/** Calls that make an object of some size, told to RottenSeats and to NaiveSeats alike. */
final class World {
    private static final Object[][] SOME = {{"place", 1, 0}, {"place", 2, 5}, {"place", 0, -1}, {"days", 400},
        {"roll", 0, 0, 10, 50, 5}, {"roll", 0, 1, 20, 7, 2}, {"roll", 1, 0, 10, 40, 3}, {"roll", 2, 0, 400, 45, 0},
        {"days", 100}, {"roll", 1, 1, 500, 9, 1}, {"weigh", 1, 3}, {"feed", 3, rule("h>0")}, {"text", false},
        {"feed", 3, rule("1=1")}, {"text", false}, {"feed", 7, rule("a=b|c=1")}, {"text", true}, {"old", 0, 0, 0},
        {"old", 1, 1, 100}, {"old", 0, 1, 450}, {"person", 0, -2000, 1, 0}, {"person", 1, 0, 2, 5},
        {"person", 0, 400, 3, -1}, {"person", 2, 500, 0, 1}, {"gone", 2}, {"right", 0, 0, 0, 0, -100},
        {"right", 1, 1, 1, 30, 200}, {"right", 1, 1, 2, 2, 450}, {"right", 0, 0, 1, 5, 500},
        {"right", 3, 0, 0, 0, 490}, {"end", 3}, {"sell", 0, 0, 10, 5}, {"sell", 0, 10, 20, 5}, {"sell", 1, 0, 5, 1},
        {"sell", 2, 7, 7, 7}, {"base", 0, 333}, {"fact", 0, 0, 1}, {"member", 0, -3}, {"member", 1, 4},
        {"member", 2, 0}, {"member", 0, 9}, {"member", 1, -9}, {"member", 2, 1}, {"member", 0, 2}, {"member", 1, -1},
        {"member", 2, 5}, {"member", 0, 3}, {"member", 7, -7}, {"member", 1, 6}, {"line", 0, 1, 2, 0},
        {"line", 1, 2, 45, 1}, {"line", 2, 2, 1, 0}, {"want", 0, 0, 5}, {"want", 0, 1, -3}, {"want", 1, 2, 4},
        {"want", 2, 0, 9}, {"want", 7, 8, -9}, {"bar", 1, 2}, {"bar", 2, -1}, {"read", 0, 511}, {"read", 1, 6},
        {"read", 2, 1}, {"there", 0, 0, 2, 4}, {"there", 1, 0, 1, 3}, {"there", 2, 0, 0, 9}, {"there", 0, 4, 4, 4},
        {"there", 1, 4, 0, 1}, {"patron", 3, 1}, {"feed", 2, rule("h>")}, {"put", 1}, {"put", 2}};

    private World() {
    }

    /** A text as the bytes of one call, the first the lowest. */
    static long rule(String text) {
        long bytes = 0;
        for (int i = 0; i < text.length(); i++) {
            bytes |= (long) text.charAt(i) << 8 * i;
        }
        return bytes;
    }

    /** 3 places, 4 persons (2 is gone), 5 rights (3 is ended), 12 members, 3 lines; now is 500. */
    static RottenSeats some() {
        RottenSeats x = new RottenSeats();
        tell(x, SOME);
        return x;
    }

    /** All that has a greatest number is there as often as may be, and the day is the last. */
    static RottenSeats full() {
        RottenSeats x = new RottenSeats();
        tell(x, fullCalls());
        return x;
    }

    static Object[][] someCalls() {
        return SOME;
    }

    static Object[][] fullCalls() {
        List<Object[]> calls = new ArrayList<>();
        calls.add(new Object[] {"days", 2000});
        for (int i = 0; i < 16; i++) {
            calls.add(new Object[] {"place", i % 3, i % 7 - 1});
        }
        for (int i = 0; i < 120; i++) {
            calls.add(new Object[] {"roll", i % 16, i / 16 % 2, 2000 - i, 83 * i, 8 * i});
        }
        for (int i = 0; i < 20; i++) {
            calls.add(new Object[] {"feed", 4, rule("d>" + (10 + i))});
            calls.add(new Object[] {"text", false});
        }
        for (int i = 0; i < 10; i++) {
            calls.add(new Object[] {"feed", 3, rule("abcd".charAt(i % 4) + "=" + i % 2)});
            calls.add(new Object[] {"text", true});
        }
        for (int i = 0; i < 40; i++) {
            calls.add(new Object[] {"person", i % 16, 2000 - i, i % 4, i % 7 - 1});
            calls.add(new Object[] {"old", i % 16, i % 20, 50 * i});
            calls.add(new Object[] {"right", i, i % 16, i % 3, 1 + i % 3, i - 2000});
            calls.add(new Object[] {"right", i / 2, i % 16, 1, 1 + i, 2000 - i});
            calls.add(new Object[] {"member", i % 8, i % 19 - 9});
        }
        for (int i = 0; i < 30; i++) {
            calls.add(new Object[] {"sell", i % 16, i, i + i % 5, i});
        }
        for (int i = 0; i < 9; i++) {
            calls.add(new Object[] {"line", i % 3, 1 + i % 2, i, i > 4 ? 1 << i - 4 : 0});
        }
        for (int i = 0; i < 20; i++) {
            calls.add(new Object[] {"put", i});
        }
        for (int i = 0; i < 5; i++) {
            calls.add(new Object[] {"feed", 8, 0L});
        }
        return calls.toArray(new Object[0][]);
    }

    /** Knots with so many members each, that have read all and are all there on night 0. */
    static RottenSeats knots(int... sizes) {
        RottenSeats x = new RottenSeats();
        for (int knot = 0; knot < sizes.length; knot++) {
            for (int i = 0; i < sizes[knot]; i++) {
                x.member(knot, 0);
            }
            x.read(knot, 511);
            x.there(knot, 0, sizes[knot], sizes[knot]);
        }
        return x;
    }

    /** Lines that hang on such sets. */
    static void lines(RottenSeats x, int... hangs) {
        for (int set : hangs) {
            x.line(0, 1, 0, set);
        }
    }

    /** Members of one knot with such leans. */
    static RottenSeats leans(int... leans) {
        RottenSeats x = new RottenSeats();
        for (int lean : leans) {
            x.member(0, lean);
        }
        return x;
    }

    static void tell(Object to, Object[][] calls) {
        for (Object[] call : calls) {
            tell(to, call);
        }
    }

    /** One call by its name: a machine's own exception in it is a fault of the program. */
    static int tell(Object to, Object... call) {
        Object[] arguments = Arrays.copyOfRange(call, 1, call.length);
        for (Method method : to.getClass().getDeclaredMethods()) {
            if (method.getName().equals(call[0]) && method.getParameterCount() == arguments.length
                    && method.getReturnType() == int.class) {
                try {
                    return (Integer) method.invoke(to, arguments);
                } catch (InvocationTargetException e) {
                    throw new IllegalStateException(Arrays.toString(call), e.getCause());
                } catch (IllegalAccessException e) {
                    throw new IllegalStateException(e);
                }
            }
        }
        throw new IllegalStateException("no call " + call[0]);
    }

    /** How often it has refused so far. */
    static int refusals(RottenSeats x) {
        int sum = 0;
        for (int what = 11; what <= 16; what++) {
            sum += x.count(what);
        }
        return sum;
    }
}
