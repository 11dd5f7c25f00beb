/** Promises 17 to 23: put, pass, sleep, wake, log, tear, count. */
public final class DeskTest {
    private static final int LAST = 157785119;
    private static final Class<IndexOutOfBoundsException> INDEX = IndexOutOfBoundsException.class;
    private static final Class<IllegalArgumentException> ARGUMENT = IllegalArgumentException.class;
    private static final Class<IllegalStateException> STATE = IllegalStateException.class;

    public static void main(String[] args) {
        put();
        passRefuses();
        passTogether();
        passDrop();
        passWait();
        passByNumbers();
        passAtTheEdges();
        sleep();
        wakeEnds();
        wakeWays();
        wakeAtTheSameMinute();
        wakeOverlaps();
        wakeWithManyMissed();
        log();
        tear();
        count();
        Due.end("DeskTest");
    }

    private static int order(CalendarOrders x, String text, int way, int grace, int overlap, int takes) {
        Due.text(x, text);
        return x.order(0, way, grace, overlap, takes);
    }

    /** The lines from one on, each as kind, order, minute, minute that matched, of a clock put at 1000. */
    private static void lines(String call, CalendarOrders x, int from, String... want) {
        Due.is(call + ", lines", x.count(3), from + want.length);
        for (int i = 0; i < want.length && from + i < x.count(3); i++) {
            int line = from + i;
            String got = x.log(line, 0) + " " + x.log(line, 1) + " " + (x.log(line, 2) - 1000) + " "
                + (x.log(line, 3) - 1000);
            Due.is(call + ", line " + line, got, want[i]);
        }
    }

    private static CalendarOrders at1000() {
        CalendarOrders x = new CalendarOrders();
        x.put(1000);
        return x;
    }

    private static void put() {
        CalendarOrders x = at1000();
        order(x, "* * * * *", 0, 0, 2, 50);
        x.pass(2);
        Due.is("promise 17: one runs", x.told(0, 5), 1);
        Due.is("promise 17: one waits", x.told(0, 6), 1);
        x.put(500);
        Due.is("promise 17: where the clock is", x.count(0), 500);
        Due.is("promise 17: no run", x.count(5), 0);
        Due.is("promise 17: none waits", x.told(0, 6), 0);
        Due.is("promise 17: what began stays counted", x.told(0, 7), 1);
        Due.is("promise 17: nothing is told, nor looked at", x.count(3), 2);
        x.pass(1);
        Due.is("promise 17: begins at the next minute", x.log(2, 2), 501);
        x.put(LAST);
        x.put(0);
        Due.refuses("promise 17: minute -1", ARGUMENT, () -> x.put(-1));
        Due.refuses("promise 17: no such minute", ARGUMENT, () -> x.put(LAST + 1));
        x.sleep();
        Due.refuses("promise 17: asleep", STATE, () -> x.put(5));
        Due.refuses("promise 17: argument before state", ARGUMENT, () -> x.put(-1));
        Due.is("promise 17: what throws changes nothing", x.count(0), 0);
    }

    private static void passRefuses() {
        CalendarOrders x = new CalendarOrders();
        Due.refuses("promise 18: -1", ARGUMENT, () -> x.pass(-1));
        Due.refuses("promise 18: 3001", ARGUMENT, () -> x.pass(3001));
        Due.is("promise 18: 3000", x.pass(3000), 3000);
        Due.is("promise 18: 0", x.pass(0), 3000);
        x.sleep();
        Due.refuses("promise 18: asleep -1", ARGUMENT, () -> x.pass(-1));
        Due.refuses("promise 18: asleep 3000001", ARGUMENT, () -> x.pass(3000001));
        Due.is("promise 18: asleep 3000000", x.pass(3000000), 3003000);
        x.wake();
        x.put(LAST - 5);
        Due.refuses("promise 18: not so many", ARGUMENT, () -> x.pass(6));
        x.sleep();
        Due.refuses("promise 18: not so many asleep", ARGUMENT, () -> x.pass(6));
        Due.refuses("promise 18: the greatest int", ARGUMENT, () -> x.pass(Integer.MAX_VALUE));
        Due.is("promise 18: to the last minute", x.pass(5), LAST);
    }

    private static void passTogether() {
        CalendarOrders x = at1000();
        order(x, "* * * * *", 0, 0, 0, 10);
        Due.is("promise 18: where the clock is", x.pass(11), 1011);
        lines("promise 18: TOGETHER", x, 0, "0 0 1 1", "0 0 2 2", "0 0 3 3", "0 0 4 4", "0 0 5 5", "0 0 6 6",
            "0 0 7 7", "0 0 8 8", "2 0 9 9", "2 0 10 10", "1 0 11 1", "0 0 11 11");
        Due.is("promise 18: eight at most", x.told(0, 5), 8);
        Due.is("promise 18: began", x.told(0, 7), 9);
        Due.is("promise 18: dropped", x.told(0, 8), 2);
    }

    private static void passDrop() {
        CalendarOrders x = at1000();
        order(x, "*/2 * * * *", 0, 0, 1, 4);
        x.pass(8);
        lines("promise 18: DROP", x, 0, "0 0 2 2", "2 0 4 4", "1 0 6 2", "0 0 6 6", "2 0 8 8");
        CalendarOrders y = at1000();
        order(y, "* * * * *", 0, 0, 1, 1);
        y.pass(3);
        lines("promise 18: ends before the next is due", y, 0, "0 0 1 1", "1 0 2 1", "0 0 2 2", "1 0 3 2", "0 0 3 3");
    }

    private static void passWait() {
        CalendarOrders x = at1000();
        order(x, "* * * * *", 0, 0, 2, 3);
        x.pass(5);
        lines("promise 18: WAIT", x, 0, "0 0 1 1", "3 0 2 2", "2 0 3 3", "1 0 4 1", "0 0 4 2", "3 0 4 4", "2 0 5 5");
        Due.is("promise 18: one waits", x.told(0, 6), 1);
        Due.is("promise 18: one runs", x.told(0, 5), 1);
    }

    private static void passByNumbers() {
        CalendarOrders x = at1000();
        order(x, "42 * * * *", 0, 0, 2, 2);
        order(x, "41 * * * *", 0, 0, 0, 3);
        order(x, "43,44 * * * *", 0, 0, 0, 1);
        x.pass(4);
        // 1000 is 16:40.
        lines("promise 18: by numbers", x, 0, "0 1 1 1", "0 0 2 2", "0 2 3 3", "1 0 4 2", "1 1 4 1", "1 2 4 3", "0 2 4 4");
    }

    private static void passAtTheEdges() {
        CalendarOrders x = new CalendarOrders();
        order(x, "* * * * *", 2, 100000, 0, 10000);
        x.pass(1);
        Due.is("promise 18: minute 0 is not come to", x.log(0, 2), 1);
        x.put(LAST - 1);
        x.pass(1);
        Due.is("promise 18: the last minute is", x.log(1, 2), LAST);
        Due.is("promise 18: its run goes on", x.count(5), 1);
        Due.is("promise 18: no more", x.pass(0), LAST);
        CalendarOrders y = at1000();
        order(y, "* * * * *", 0, 0, 1, 10000);
        y.pass(3000);
        Due.is("promise 18: every one of 3000 minutes", y.count(3), 3000);
        Due.is("promise 18: the last one, too", y.told(0, 8), 2999);
    }

    private static void sleep() {
        CalendarOrders x = at1000();
        order(x, "* * * * *", 0, 0, 0, 2);
        x.pass(1);
        x.sleep();
        Due.is("promise 19: asleep", x.count(1), 0);
        Due.refuses("promise 19: asleep already", STATE, x::sleep);
        x.pass(100);
        Due.is("promise 19: no minute is looked at", x.count(3), 1);
        Due.is("promise 19: runs go on", x.count(5), 1);
        Due.is("promise 19: of it, too", x.told(0, 5), 1);
    }

    private static void wakeEnds() {
        CalendarOrders x = at1000();
        order(x, "41,42 * * * *", 0, 0, 2, 10);
        order(x, "41,42,43 * * * *", 0, 0, 0, 9);
        order(x, "42 * * * *", 0, 0, 0, 9);
        order(x, "43 * * * *", 0, 0, 0, 100);
        x.pass(3);
        int had = x.count(3);
        x.sleep();
        x.pass(17);
        Due.is("promise 20: how many lines", x.wake(), 6);
        lines("promise 20: ends", x, had, "1 1 10 1", "1 0 11 1", "0 0 11 2", "1 1 11 2", "1 2 11 2", "1 1 12 3");
        Due.is("promise 20: awake", x.count(1), 1);
        Due.refuses("promise 20: awake already", STATE, x::wake);
        Due.is("promise 20: what waited runs", x.told(0, 5), 1);
        Due.is("promise 20: the long one runs", x.told(3, 5), 1);
        x.sleep();
        x.pass(1);
        x.wake();
        lines("promise 20: may end likewise", x, had + 6, "1 0 21 2");
    }

    private static void wakeWays() {
        for (int grace = 0; grace < 4; grace++) {
            CalendarOrders x = at1000();
            order(x, "*/3 * * * *", 0, 100, 0, 1);
            order(x, "*/3 * * * *", 1, grace, 0, 1);
            order(x, "*/3 * * * *", 2, 5 + grace, 0, 1);
            x.sleep();
            // 1008 is 16:48, 1010 the minute of waking.
            x.pass(10);
            x.wake();
            String[] once = {"0 1 10 8"};
            String[] all = grace < 3 ? new String[] {"0 2 10 5", "0 2 10 8"}
                : new String[] {"0 2 10 2", "0 2 10 5", "0 2 10 8"};
            String[] want = new String[(grace >= 2 ? 1 : 0) + all.length];
            System.arraycopy(once, 0, want, 0, want.length - all.length);
            System.arraycopy(all, 0, want, want.length - all.length, all.length);
            lines("promise 20: grace " + grace, x, 0, want);
        }
        CalendarOrders x = at1000();
        order(x, "40,50 * * * *", 2, 100, 0, 1);
        order(x, "50 * * * *", 0, 100, 0, 1);
        order(x, "50 * * * *", 1, 0, 0, 1);
        x.sleep();
        x.pass(10);
        x.wake();
        lines("promise 20: not that of falling asleep, but that of waking", x, 0, "0 0 10 10", "0 2 10 10");
        x.pass(1);
        lines("promise 20: a run begun at waking", x, 0, "0 0 10 10", "0 2 10 10", "1 0 11 10", "1 2 11 10");
    }

    private static void wakeAtTheSameMinute() {
        CalendarOrders x = at1000();
        order(x, "* * * * *", 2, 100, 0, 5);
        x.pass(1);
        x.sleep();
        Due.is("promise 20: nothing came", x.wake(), 0);
        Due.is("promise 20: the clock stays", x.count(0), 1001);
        x.sleep();
        order(x, "* * * * *", 2, 100, 0, 5);
        x.pass(2);
        Due.is("promise 20: an order made asleep missed them as well", x.wake(), 4);
        lines("promise 20: both", x, 1, "0 0 3 2", "0 0 3 3", "0 1 3 2", "0 1 3 3");
    }

    private static void wakeOverlaps() {
        CalendarOrders x = at1000();
        order(x, "* * * * *", 2, 3, 1, 5);
        order(x, "* * * * *", 2, 3, 2, 5);
        x.pass(1);
        x.sleep();
        x.pass(4);
        x.wake();
        lines("promise 20: under way", x, 2, "2 0 5 2", "2 0 5 3", "2 0 5 4", "2 0 5 5",
            "3 1 5 2", "2 1 5 3", "2 1 5 4", "2 1 5 5");
        CalendarOrders y = at1000();
        order(y, "* * * * *", 2, 3, 1, 5);
        order(y, "* * * * *", 2, 3, 2, 5);
        y.sleep();
        y.pass(100);
        y.wake();
        lines("promise 20: none under way", y, 0, "0 0 100 97", "2 0 100 98", "2 0 100 99", "2 0 100 100",
            "0 1 100 97", "3 1 100 98", "2 1 100 99", "2 1 100 100");
    }

    private static void wakeWithManyMissed() {
        CalendarOrders x = at1000();
        order(x, "* * * * *", 2, 100000, 0, 1);
        order(x, "*/2 * * * *", 2, 100000, 2, 1);
        x.sleep();
        x.pass(3000000);
        Due.is("promise 20: very many", x.wake(), 100001 + 50001);
        Due.is("promise 20: all are counted", x.count(3), 150002);
        Due.is("promise 20: eight began", x.told(0, 7), 8);
        Due.is("promise 20: the rest was dropped", x.told(0, 8), 100001 - 8);
        Due.is("promise 20: dropped of the second", x.told(1, 8), 50001 - 2);
        Due.is("promise 20: the second waits", x.told(1, 6), 1);
        Due.is("promise 20: the first that is not too long ago", x.log(0, 3), 3001000 - 100000);
        Due.is("promise 20: the last line kept", x.log(299, 3), 3001000 - 100000 + 299);
        Due.refuses("promise 21: no more is kept", INDEX, () -> x.log(300, 0));
        Due.is("promise 22: all that there were", x.tear(), 150002);
    }

    private static void log() {
        CalendarOrders x = at1000();
        order(x, "* * * * *", 0, 0, 1, 200);
        Due.refuses("promise 21: no line", INDEX, () -> x.log(0, 0));
        x.pass(150);
        Due.is("promise 21: kind", x.log(149, 0), 2);
        Due.is("promise 21: order", x.log(149, 1), 0);
        Due.is("promise 21: minute", x.log(149, 2), 1150);
        Due.is("promise 21: matched", x.log(149, 3), 1150);
        Due.refuses("promise 21: line 150", INDEX, () -> x.log(150, 0));
        Due.refuses("promise 21: line first", INDEX, () -> x.log(-1, 9));
        Due.refuses("promise 21: what 4", ARGUMENT, () -> x.log(0, 4));
        Due.refuses("promise 21: what -1", ARGUMENT, () -> x.log(0, -1));
        x.pass(200);
        Due.is("promise 21: line 299", x.log(299, 2), 1299);
        Due.refuses("promise 21: line 300", INDEX, () -> x.log(300, 0));
        Due.is("promise 21: more are counted", x.count(3), 351);
    }

    private static void tear() {
        CalendarOrders x = at1000();
        order(x, "* * * * *", 0, 0, 0, 1);
        Due.is("promise 22: none", x.tear(), 0);
        x.pass(400);
        Due.is("promise 22: all that there were", x.tear(), 799);
        Due.is("promise 22: empty", x.count(3), 0);
        Due.refuses("promise 22: no line", INDEX, () -> x.log(0, 0));
        x.pass(1);
        lines("promise 22: the next lines", x, 0, "1 0 401 400", "0 0 401 401");
        Due.is("promise 22: what began stays counted", x.told(0, 7), 401);
    }

    private static void count() {
        CalendarOrders x = at1000();
        order(x, "* * * * *", 0, 0, 0, 5);
        order(x, "* * * * *", 0, 0, 2, 5);
        x.feed(0, 3);
        x.pass(3);
        int[] want = {1003, 1, 2, 6, 3, 4};
        for (int what = 0; what < 6; what++) {
            Due.is("promise 23: " + what, x.count(what), want[what]);
        }
        Due.refuses("promise 23: -1", ARGUMENT, () -> x.count(-1));
        Due.refuses("promise 23: 6", ARGUMENT, () -> x.count(6));
    }
}
