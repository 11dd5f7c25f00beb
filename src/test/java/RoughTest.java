import java.util.List;
import java.util.Random;

/** Rough arguments in any state: a call answers, or throws one that the document's face names for it. */
public final class RoughTest {
    private static final int[] NUMBERS = {Integer.MIN_VALUE, Integer.MAX_VALUE, Integer.MIN_VALUE + 1, -1440, -2, -1, 0,
        0, 0, 1, 1, 2, 3, 4, 5, 6, 7, 8, 9, 11, 12, 28, 29, 30, 31, 160, 299, 300, 1439, 1440, 1899, 1900, 2024, 2199,
        2200, 3000, 10000, 20000, 100000, 3000000, 28800000, 157785118, 157785119, 157785120};
    private static final String[] TEXTS = {"* * * * *", "@hourly", "0 0 30 2 *", "*/7 * L-30,LW,1W * 5#5,monL",
        "59 23 31 12 * 2199", "0 0 1 1 * 1900", "* * * * * */299", "5 4 31W 2 7#5"};
    private static final String INDEX = "IndexOutOfBoundsException";
    private static final String ARGUMENT = "IllegalArgumentException";
    private static final String STATE = "IllegalStateException";
    private static final List<String> INDEX_ARGUMENT = List.of(INDEX, ARGUMENT);

    public static void main(String[] args) {
        for (int seed = 0; seed < 400; seed++) {
            Random random = new Random(seed);
            CalendarOrders x = new CalendarOrders();
            for (int i = 0; i < 400; i++) {
                int call = random.nextInt(25);
                int[] a = new int[6];
                for (int k = 0; k < 6; k++) {
                    a[k] = random.nextInt(3) == 0 ? random.nextInt(4) : NUMBERS[random.nextInt(NUMBERS.length)];
                }
                long bytes = random.nextLong();
                Object got = Due.answerOf(() -> call(x, call, a, bytes));
                Due.is("call " + call + " answered " + got, got instanceof Long || named(call).contains(got), true);
            }
        }
        Due.end("RoughTest");
    }

    /** What the public face names for a call; the last ones are orders of a known text. */
    private static List<String> named(int call) {
        switch (call) {
            case 1: case 5: case 23: case 24: return List.of(INDEX, ARGUMENT, STATE);
            case 4: case 15: return List.of(ARGUMENT, STATE);
            case 6: case 21: return List.of();
            case 7: return List.of(INDEX);
            case 16: case 17: case 22: return List.of(ARGUMENT);
            case 18: case 19: return List.of(STATE);
            default: return INDEX_ARGUMENT;
        }
    }

    private static Long call(CalendarOrders x, int call, int[] a, long bytes) {
        switch (call) {
            case 0: x.zone(a[0], a[1]); return 0L;
            case 1: return (long) x.change(a[0], a[1], a[2]);
            case 2: return (long) x.civil(a[0], a[1], a[2]);
            case 3: return (long) x.minute(a[0], a[1], a[2], a[3], a[4], a[5]);
            case 4: return (long) x.feed(bytes, a[0]);
            case 5: return (long) x.order(a[0], a[1], a[2], a[3], a[4]);
            case 6: return (long) x.fault();
            case 7: return (long) (a[5] > 5 ? x.cancel(a[0]) : 0);
            case 8: return (long) x.told(a[0], a[1]);
            case 9: return x.field(a[0], a[1]);
            case 10: return x.day(a[0], a[1], a[2], a[3], a[4]) ? 1L : 0L;
            case 11: return x.matches(a[0], a[1]) ? 1L : 0L;
            case 12: return (long) x.next(a[0], a[1], a[2]);
            case 13: return (long) x.before(a[0], a[1], a[2]);
            case 14: return (long) x.between(a[0], a[1], a[2]);
            case 15: x.put(a[0]); return 0L;
            case 16: case 17: return (long) x.pass(a[0]);
            case 18: x.sleep(); return 0L;
            case 19: return (long) x.wake();
            case 20: return (long) x.log(a[0], a[1]);
            case 21: return (long) x.tear();
            case 22: return (long) x.count(a[0]);
            default:
                return (long) Due.order(x, TEXTS[(int) (bytes & 7)]);
        }
    }
}
