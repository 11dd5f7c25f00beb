import java.util.ArrayList;
import java.util.List;
import java.util.function.Consumer;
import java.util.function.Supplier;

/**
 * "What throws changes nothing": of twins in the same state one is refused a call, and then both must answer alike to all
 * that can be asked, and to what goes on from there. Each refused call is named with the exception that is due.
 */
public final class RefusedTest {
    private static final int LAST = 157785119;
    private static final Class<IndexOutOfBoundsException> INDEX = IndexOutOfBoundsException.class;
    private static final Class<IllegalArgumentException> ARGUMENT = IllegalArgumentException.class;
    private static final Class<IllegalStateException> STATE = IllegalStateException.class;
    private static final int MOST_CALLS = 512;

    private final List<Object> answers = new ArrayList<>();
    private final CalendarOrders x;

    private RefusedTest(CalendarOrders asked) {
        x = asked;
    }

    private interface Call {
        Object of(CalendarOrders x);
    }

    private record Refused(int promise, String call, Class<? extends RuntimeException> due, Call made) {
    }

    public static void main(String[] args) {
        Due.sentence("Terms", "What throws changes nothing.");
        List<Refused> common = join(time(), orders(), ofNoOrder(), desk());
        check("a new object", x -> { }, join(common, ofOrder(0, INDEX), awake()));
        check("busy", RefusedTest::busy, join(common, ofOrder(0, ARGUMENT), ofOrder(3, INDEX), awake()));
        check("busy and asleep", RefusedTest::busyAsleep, join(common, ofOrder(2, ARGUMENT), ofOrder(11, INDEX), asleep()));
        check("full", RefusedTest::full, join(common, ofOrder(11, ARGUMENT), awake(), fullUp()));
        check("full and asleep", RefusedTest::fullAsleep, join(common, ofOrder(11, ARGUMENT), asleep(), fullUp()));
        check("at the last minute", RefusedTest::atTheLastMinute, join(common, awake(), behindTheLast()));
        Due.end("RefusedTest");
    }

    private static void check(String state, Consumer<CalendarOrders> setUp, List<Refused> calls) {
        List<Object> want = new RefusedTest(inState(setUp)).allAnswers();
        for (Refused r : calls) {
            CalendarOrders y = inState(setUp);
            Due.refuses("promise " + r.promise + ", " + state + ": " + r.call, r.due, () -> r.made.of(y));
            List<Object> got = new RefusedTest(y).allAnswers();
            Due.is("promise " + r.promise + ", " + state + ": what follows " + r.call, got, want);
        }
    }

    private static CalendarOrders inState(Consumer<CalendarOrders> setUp) {
        CalendarOrders x = new CalendarOrders();
        setUp.accept(x);
        return x;
    }

    @SafeVarargs
    private static List<Refused> join(List<Refused>... lists) {
        List<Refused> all = new ArrayList<>();
        for (List<Refused> list : lists) {
            all.addAll(list);
        }
        return all;
    }

    // ---- the states

    private static void order(CalendarOrders x, String text, int z, int way, int overlap, int takes) {
        Due.text(x, text);
        x.order(z, way, 100000, overlap, takes);
    }

    private static void busy(CalendarOrders x) {
        x.zone(0, -90);
        x.zone(1, 60);
        x.change(1, 3000, 0);
        x.change(1, 5000, 120);
        x.put(2990);
        order(x, "* * * * *", 1, 2, 0, 30);
        order(x, "*/2 * L * mon-fri", 0, 1, 1, 7);
        order(x, "*/3 * * * *", 2, 2, 2, 9);
        Due.order(x, "5-3");
        x.pass(20);
        Due.text(x, "1 2 3 ");
    }

    private static void busyAsleep(CalendarOrders x) {
        busy(x);
        x.sleep();
        x.pass(25);
    }

    private static void full(CalendarOrders x) {
        for (int n = 0; n < 20; n++) {
            x.change(2, 100 * n, n);
        }
        for (int n = 0; n < 12; n++) {
            order(x, "* * * * *", 2, n % 3, n < 6 ? 0 : n % 3, 10000);
        }
        x.pass(40);
        for (int n = 0; n < 20; n++) {
            x.feed(0x2a2a2a2a2a2a2a2aL, 8);
        }
    }

    private static void fullAsleep(CalendarOrders x) {
        full(x);
        x.sleep();
        x.pass(10000);
    }

    private static void atTheLastMinute(CalendarOrders x) {
        x.put(LAST - 3);
        order(x, "* * * * *", 0, 2, 0, 30);
        x.pass(3);
    }

    // ---- calls that are refused

    private static Refused no(int promise, String call, Class<? extends RuntimeException> due, Call made) {
        return new Refused(promise, call, due, made);
    }

    private static Call doing(Consumer<CalendarOrders> call) {
        return x -> {
            call.accept(x);
            return "nothing";
        };
    }

    private static List<Refused> time() {
        return List.of(
            no(2, "zone(-1, 5)", INDEX, doing(x -> x.zone(-1, 5))),
            no(2, "zone(4, 1440)", INDEX, doing(x -> x.zone(4, 1440))),
            no(2, "zone(1, -1440)", ARGUMENT, doing(x -> x.zone(1, -1440))),
            no(2, "zone(2, 1440)", ARGUMENT, doing(x -> x.zone(2, 1440))),
            no(3, "change(-1, 100000, 5)", INDEX, x -> x.change(-1, 100000, 5)),
            no(3, "change(4, -1, 1440)", INDEX, x -> x.change(4, -1, 1440)),
            no(3, "change(1, -1, 5)", ARGUMENT, x -> x.change(1, -1, 5)),
            no(3, "change(2, last + 1, 5)", ARGUMENT, x -> x.change(2, LAST + 1, 5)),
            no(3, "change(1, 100000, -1440)", ARGUMENT, x -> x.change(1, 100000, -1440)),
            no(3, "change(2, 100000, 1440)", ARGUMENT, x -> x.change(2, 100000, 1440)),
            no(4, "civil(-1, 0, 0)", INDEX, x -> x.civil(-1, 0, 0)),
            no(4, "civil(4, -1, 8)", INDEX, x -> x.civil(4, -1, 8)),
            no(4, "civil(1, -1, 0)", ARGUMENT, x -> x.civil(1, -1, 0)),
            no(4, "civil(1, last + 1, 0)", ARGUMENT, x -> x.civil(1, LAST + 1, 0)),
            no(4, "civil(1, 0, -1)", ARGUMENT, x -> x.civil(1, 0, -1)),
            no(4, "civil(1, 0, 8)", ARGUMENT, x -> x.civil(1, 0, 8)),
            no(5, "minute(4, ..)", INDEX, x -> x.minute(4, 1898, 0, 0, 24, 60)),
            no(5, "minute(0, 1898, ..)", ARGUMENT, x -> x.minute(0, 1898, 12, 31, 23, 59)),
            no(5, "minute(0, 2201, ..)", ARGUMENT, x -> x.minute(0, 2201, 1, 1, 0, 0)),
            no(5, "minute, no month", ARGUMENT, x -> x.minute(0, 2000, 13, 1, 0, 0)),
            no(5, "minute, no day", ARGUMENT, x -> x.minute(0, 1900, 2, 29, 0, 0)),
            no(5, "minute, no hour", ARGUMENT, x -> x.minute(0, 2000, 1, 1, 24, 0)),
            no(5, "minute, no minute", ARGUMENT, x -> x.minute(0, 2000, 1, 1, 0, 60)));
    }

    private static List<Refused> orders() {
        return List.of(
            no(6, "feed(0, 0)", ARGUMENT, x -> x.feed(0, 0)),
            no(6, "feed(-1, 9)", ARGUMENT, x -> x.feed(-1L, 9)),
            no(6, "feed(-1, -1)", ARGUMENT, x -> x.feed(-1L, -1)),
            no(7, "order(-1, ..)", INDEX, x -> x.order(-1, 0, 0, 0, 1)),
            no(7, "order(4, ..), all wrong", INDEX, x -> x.order(4, 3, -1, 3, 0)),
            no(7, "order, way -1", ARGUMENT, x -> x.order(0, -1, 0, 0, 1)),
            no(7, "order, way 3", ARGUMENT, x -> x.order(0, 3, 0, 0, 1)),
            no(7, "order, grace -1", ARGUMENT, x -> x.order(0, 0, -1, 0, 1)),
            no(7, "order, grace 100001", ARGUMENT, x -> x.order(0, 0, 100001, 0, 1)),
            no(7, "order, overlap -1", ARGUMENT, x -> x.order(0, 0, 0, -1, 1)),
            no(7, "order, overlap 3", ARGUMENT, x -> x.order(0, 0, 0, 3, 1)),
            no(7, "order, long 0", ARGUMENT, x -> x.order(0, 0, 0, 0, 0)),
            no(7, "order, long 10001", ARGUMENT, x -> x.order(0, 0, 0, 0, 10001)));
    }

    private static List<Refused> ofNoOrder() {
        List<Refused> all = new ArrayList<>(ofOrder(-1, INDEX));
        all.addAll(ofOrder(12, INDEX));
        return all;
    }

    /** Calls with an order's number and something else that is wrong; the number is looked at first. */
    private static List<Refused> ofOrder(int o, Class<? extends RuntimeException> due) {
        List<Refused> all = new ArrayList<>(List.of(
            no(10, "told(" + o + ", -1)", due, x -> x.told(o, -1)),
            no(10, "told(" + o + ", 11)", due, x -> x.told(o, 11)),
            no(11, "field(" + o + ", -1)", due, x -> x.field(o, -1)),
            no(11, "field(" + o + ", 5)", due, x -> x.field(o, 5)),
            no(12, "day(" + o + ", -1, ..)", due, x -> x.day(o, -1, 2000, 1, 1)),
            no(12, "day(" + o + ", 4, ..)", due, x -> x.day(o, 4, 2000, 1, 1)),
            no(12, "day(" + o + ", 0, 1898, ..)", due, x -> x.day(o, 0, 1898, 12, 31)),
            no(12, "day(" + o + ", 0, 2201, ..)", due, x -> x.day(o, 0, 2201, 1, 1)),
            no(12, "day(" + o + ", ..), no month", due, x -> x.day(o, 3, 2000, 13, 1)),
            no(12, "day(" + o + ", ..), no day", due, x -> x.day(o, 3, 2100, 2, 29)),
            no(13, "matches(" + o + ", -1)", due, x -> x.matches(o, -1)),
            no(13, "matches(" + o + ", last + 1)", due, x -> x.matches(o, LAST + 1)),
            no(14, "next(" + o + ", -1, 5)", due, x -> x.next(o, -1, 5)),
            no(14, "next(" + o + ", 5, 20001)", due, x -> x.next(o, 5, 20001)),
            no(15, "before(" + o + ", last + 1, 5)", due, x -> x.before(o, LAST + 1, 5)),
            no(15, "before(" + o + ", 5, -1)", due, x -> x.before(o, 5, -1)),
            no(16, "between(" + o + ", -1, 5)", due, x -> x.between(o, -1, 5)),
            no(16, "between(" + o + ", 5, last + 1)", due, x -> x.between(o, LAST, LAST + 1)),
            no(16, "between(" + o + ", 5, 4)", due, x -> x.between(o, 5, 4)),
            no(16, "between(" + o + ", 0, 28800001)", due, x -> x.between(o, 0, 28800001))));
        if (due == INDEX) {
            all.add(no(9, "cancel(" + o + ")", due, x -> x.cancel(o)));
            all.add(no(10, "told(" + o + ", 0)", due, x -> x.told(o, 0)));
            all.add(no(13, "matches(" + o + ", 0)", due, x -> x.matches(o, 0)));
        }
        return all;
    }

    private static List<Refused> desk() {
        return List.of(
            no(17, "put(-1)", ARGUMENT, doing(x -> x.put(-1))),
            no(17, "put(last + 1)", ARGUMENT, doing(x -> x.put(LAST + 1))),
            no(18, "pass(-1)", ARGUMENT, x -> x.pass(-1)),
            no(18, "pass(3000001)", ARGUMENT, x -> x.pass(3000001)),
            no(21, "log(-1, 0)", INDEX, x -> x.log(-1, 0)),
            no(21, "log(300, 4)", INDEX, x -> x.log(300, 4)),
            no(23, "count(-1)", ARGUMENT, x -> x.count(-1)),
            no(23, "count(6)", ARGUMENT, x -> x.count(6)));
    }

    private static List<Refused> awake() {
        return List.of(
            no(18, "pass(3001)", ARGUMENT, x -> x.pass(3001)),
            no(20, "wake()", STATE, x -> x.wake()));
    }

    private static List<Refused> asleep() {
        return List.of(
            no(17, "put(5)", STATE, doing(x -> x.put(5))),
            no(19, "sleep()", STATE, doing(x -> x.sleep())),
            no(21, "log(0, 4)", ARGUMENT, x -> x.log(0, 4)),
            no(21, "log(0, -1)", ARGUMENT, x -> x.log(0, -1)));
    }

    private static List<Refused> fullUp() {
        return List.of(
            no(3, "change(2, 1900, 5)", ARGUMENT, x -> x.change(2, 1900, 5)),
            no(3, "change(2, 1901, 5)", STATE, x -> x.change(2, 1901, 5)),
            no(3, "change(2, last, 5)", STATE, x -> x.change(2, LAST, 5)),
            no(6, "feed(0, 1)", STATE, x -> x.feed(0, 1)),
            no(6, "feed(0, 8)", STATE, x -> x.feed(0, 8)),
            no(7, "order(0, 0, 0, 0, 1)", STATE, x -> x.order(0, 0, 0, 0, 1)));
    }

    private static List<Refused> behindTheLast() {
        return List.of(
            no(18, "pass(1)", ARGUMENT, x -> x.pass(1)),
            no(18, "pass(3000)", ARGUMENT, x -> x.pass(3000)),
            no(21, "log(3, 0)", INDEX, x -> x.log(3, 0)),
            no(21, "log(2, 4)", ARGUMENT, x -> x.log(2, 4)));
    }

    // ---- what both twins are asked

    private void ask(Supplier<?> call) {
        answers.add(Due.answerOf(call));
    }

    private List<Object> allAnswers() {
        askCounts();
        for (int o = 0; o < 12; o++) {
            for (int what = 0; what <= 10; what++) {
                askTold(o, what);
            }
        }
        for (int z = 0; z < 4; z++) {
            for (int minute : new int[] {0, 1901, 2999, 3000, 5000, LAST}) {
                askCivil(z, minute);
            }
        }
        askOrder(0);
        askOrder(11);
        askLines(8);
        goOn();
        // So that the answers are promised ones, with at most 90 calls that led to the state.
        Due.is("calls of one twin", answers.size() + 90 + 1 <= MOST_CALLS, true);
        return answers;
    }

    private void askCounts() {
        for (int what = 0; what < 6; what++) {
            int w = what;
            ask(() -> x.count(w));
        }
        ask(x::fault);
    }

    private void askTold(int o, int what) {
        ask(() -> x.told(o, what));
    }

    private void askCivil(int z, int minute) {
        ask(() -> x.civil(z, minute, 4));
        ask(() -> x.civil(z, minute, 5));
    }

    private void askOrder(int o) {
        for (int field = 0; field < 5; field++) {
            int f = field;
            ask(() -> x.field(o, f));
        }
        ask(() -> x.next(o, 2999, 20000));
        ask(() -> x.before(o, 2999, 20000));
        ask(() -> x.between(o, 0, 9999));
        ask(() -> x.matches(o, 3000));
        ask(() -> x.day(o, 3, 2024, 2, 29));
    }

    private void askLines(int n) {
        for (int line = 0; line < n; line++) {
            for (int what = 0; what < 4; what++) {
                int l = line;
                int w = what;
                ask(() -> x.log(l, w));
            }
        }
    }

    /** What the desk does from here on, what is on the tape, and how many changes there are. */
    private void goOn() {
        ask(x::tear);
        ask(() -> x.order(0, 1, 2, 1, 3));
        ask(x::fault);
        ask(x::wake);
        ask(() -> x.pass(6));
        ask(Due.answering(x::sleep));
        ask(() -> x.pass(20));
        ask(x::wake);
        askCounts();
        askLines(20);
        for (int o = 0; o < 12; o += 2) {
            for (int what = 5; what <= 8; what++) {
                askTold(o, what);
            }
        }
        for (int z = 0; z < 4; z++) {
            int zone = z;
            ask(() -> x.change(zone, 100001, 7));
        }
        ask(() -> x.cancel(0));
        ask(() -> x.order(0, 1, 2, 1, 3));
        ask(x::fault);
    }
}
