/** The boundary cases of 3 ORDERS (the clock, the runs, THE LOG) and of promises 17 to 23, sentence by sentence. */
public final class DeskEdgesTest {
    private static final int LAST = 157785119;
    private static final int LEAST_INT = Integer.MIN_VALUE;
    private static final int GREATEST_INT = Integer.MAX_VALUE;
    private static final int SKIP = 0;
    private static final int ONCE = 1;
    private static final int ALL = 2;
    private static final int TOGETHER = 0;
    private static final int DROP = 1;
    private static final int WAIT = 2;
    // 1000 is 16:40, so that MINUTE 41 is minute 1001.
    private static final int START = 1000;
    private static final Class<IndexOutOfBoundsException> INDEX = IndexOutOfBoundsException.class;
    private static final Class<IllegalArgumentException> ARGUMENT = IllegalArgumentException.class;
    private static final Class<IllegalStateException> STATE = IllegalStateException.class;

    public static void main(String[] args) {
        clockBegins();
        runsEnd();
        runsEndByNumbers();
        allRunsEndAtOnce();
        oneThatWaitsBeginsAtOnce();
        ordersAreDueByNumbers();
        dueOnesBegin();
        eightTogether();
        dropped();
        oneWaits();
        asleepNothingIsLookedAt();
        wakingAtTheSameMinute();
        wakingEndsByMinutes();
        wakingEndsUpToNow();
        wakingBeginsWhatWaits();
        missedMinutes();
        missedByNumbers();
        ways();
        grace();
        missedOnesAreDueNow();
        lineOfEachKind();
        threeHundredLines();
        orderGoesAway();
        putClears();
        putRefusesMinutes();
        putRefusesAsleep();
        passAnswers();
        passRefusesAwake();
        passRefusesAsleep();
        passRefusesBehindTheLast();
        sleepRefuses();
        wakeCounts();
        wakeRefuses();
        logRefusesLines();
        logRefusesWhats();
        tearEmpties();
        countTells();
        countRefuses();
        indexFirst();
        Due.end("DeskEdgesTest");
    }

    private static CalendarOrders desk() {
        CalendarOrders x = new CalendarOrders();
        x.put(START);
        return x;
    }

    private static int order(CalendarOrders x, String text, int way, int grace, int overlap, int takes) {
        Due.text(x, text);
        return x.order(0, way, grace, overlap, takes);
    }

    private static int order(CalendarOrders x, String text, int overlap, int takes) {
        return order(x, text, SKIP, 0, overlap, takes);
    }

    private static void asleepFor(CalendarOrders x, int minutes) {
        x.sleep();
        x.pass(minutes);
        x.wake();
    }

    /** The lines since the last tear, each as kind, order, minute, minute that matched, both told from START on. */
    private static void lines(CalendarOrders x, String call, String... want) {
        StringBuilder got = new StringBuilder();
        for (int line = 0; line < Math.min(x.count(3), 40); line++) {
            got.append(x.log(line, 0)).append(' ').append(x.log(line, 1)).append(' ').append(x.log(line, 2) - START)
                .append(' ').append(x.log(line, 3) - START).append("; ");
        }
        StringBuilder due = new StringBuilder();
        for (String line : want) {
            due.append(line).append("; ");
        }
        Due.is(call, got.toString(), due.toString());
        Due.is(call + ", lines torn", x.tear(), want.length);
    }

    private static void clockBegins() {
        Due.sentence("3 ORDERS", "THE CLOCK is at 0 first, AWAKE. It goes on minute by minute.");
        CalendarOrders x = new CalendarOrders();
        Due.is("at 0", x.count(0), 0);
        Due.is("awake", x.count(1), 1);
        order(x, "* * * * *", TOGETHER, 10000);
        for (int n = 1; n <= 5; n++) {
            Due.is("minute " + n, x.pass(1), n);
            Due.is("a line for each, and none for 0", x.count(3), n);
            Due.is("its minute", x.log(n - 1, 2), n);
        }
        CalendarOrders y = new CalendarOrders();
        order(y, "* * * * *", TOGETHER, 10000);
        y.pass(5);
        Due.is("five at once", y.count(3), 5);
        Due.is("the first is not 0", y.log(0, 2), 1);
        Due.is("the last", y.log(4, 2), 5);
    }

    private static void runsEnd() {
        Due.sentence("3 ORDERS", "first runs that end then end (begun LONG minutes before");
        for (int takes : new int[] {1, 2, 59}) {
            CalendarOrders x = desk();
            order(x, "41 16 * * *", TOGETHER, takes);
            x.pass(takes);
            lines(x, "a minute before it ends", "0 0 1 1");
            Due.is("it runs", x.told(0, 5), 1);
            x.pass(1);
            lines(x, "it ends", "1 0 " + (1 + takes) + " 1");
            Due.is("it does not run", x.told(0, 5), 0);
        }
        CalendarOrders x = desk();
        order(x, "41 16 1 1 *", TOGETHER, 10000);
        for (int n = 0; n < 4; n++) {
            x.pass(2500);
        }
        lines(x, "a minute before the longest ends", "0 0 1 1");
        Due.is("the longest runs", x.count(5), 1);
        x.pass(1);
        lines(x, "the longest ends", "1 0 10001 1");
    }

    private static void runsEndByNumbers() {
        Due.sentence("3 ORDERS", "by numbers of ORDERS, of one those begun first");
        CalendarOrders x = desk();
        order(x, "44 * * * *", TOGETHER, 1);
        order(x, "42 * * * *", TOGETHER, 3);
        order(x, "41 * * * *", TOGETHER, 4);
        x.pass(5);
        lines(x, "three end at once", "0 2 1 1", "0 1 2 2", "0 0 4 4", "1 0 5 4", "1 1 5 2", "1 2 5 1");
        // Made up for at the same minute, the runs of one order end at the same minute, too.
        CalendarOrders y = desk();
        order(y, "41-43 * * * *", ALL, 100, TOGETHER, 7);
        order(y, "44 * * * *", ALL, 100, TOGETHER, 7);
        asleepFor(y, 9);
        lines(y, "four begin", "0 0 9 1", "0 0 9 2", "0 0 9 3", "0 1 9 4");
        y.pass(7);
        lines(y, "those begun first", "1 0 16 1", "1 0 16 2", "1 0 16 3", "1 1 16 4");
    }

    private static CalendarOrders twelveTogether(int takes) {
        CalendarOrders x = desk();
        for (int n = 0; n < 12; n++) {
            order(x, "* * * * *", ALL, 7, TOGETHER, takes);
        }
        return x;
    }

    private static void ended(CalendarOrders x, int line, int number, int minute, int matched) {
        Due.is("kind of line " + line, x.log(line, 0), 1);
        Due.is("order of line " + line, x.log(line, 1), number);
        Due.is("minute of line " + line, x.log(line, 2), START + minute);
        Due.is("matched of line " + line, x.log(line, 3), START + matched);
    }

    private static void allRunsEndAtOnce() {
        Due.sentence("3 ORDERS", "(begun LONG minutes before; by numbers of ORDERS, of one those begun first");
        CalendarOrders x = twelveTogether(5);
        asleepFor(x, 8);
        Due.is("eight of all twelve", x.count(5), 96);
        x.tear();
        x.pass(4);
        Due.is("none has ended", x.count(5), 96);
        x.tear();
        x.pass(1);
        for (int line = 0; line < 96; line++) {
            ended(x, line, line / 8, 13, line % 8 + 1);
        }
        Due.is("new ones are due behind them", x.count(5), 12);
        Due.is("lines", x.count(3), 96 + 12);
        Due.sentence("3 ORDERS", "by the minutes of their ends, then by numbers of ORDERS, then those begun first");
        CalendarOrders y = twelveTogether(10);
        y.pass(8);
        Due.is("eight of all twelve", y.count(5), 96);
        y.tear();
        y.sleep();
        y.pass(10);
        Due.is("all end, and eight of each were missed", y.wake(), 96 + 96);
        for (int line = 0; line < 96; line++) {
            ended(y, line, line % 12, line / 12 + 11, line / 12 + 1);
        }
        Due.is("eight of all twelve again", y.count(5), 96);
    }

    private static void oneThatWaitsBeginsAtOnce() {
        Due.sentence("3 ORDERS", "behind each, if one of that ORDER WAITS and none of it runs any more, that begins at once");
        CalendarOrders x = desk();
        order(x, "41,42 * * * *", WAIT, 3);
        order(x, "41 * * * *", DROP, 3);
        x.pass(4);
        lines(x, "behind its own end, ahead of the next order's", "0 0 1 1", "0 1 1 1", "3 0 2 2", "1 0 4 1", "0 0 4 2", "1 1 4 1");
        Due.is("none waits", x.told(0, 6), 0);
        Due.is("one runs", x.told(0, 5), 1);
        x.pass(2);
        lines(x, "it takes as long from then on");
        x.pass(1);
        lines(x, "it ends", "1 0 7 2");
        CalendarOrders y = desk();
        order(y, "* * * * *", WAIT, 1);
        y.pass(3);
        lines(y, "with a run of one minute none ever waits", "0 0 1 1", "1 0 2 1", "0 0 2 2", "1 0 3 2", "0 0 3 3");
        CalendarOrders z = desk();
        order(z, "* * * * *", WAIT, 2);
        z.pass(4);
        lines(z, "begins before the next one is due", "0 0 1 1", "3 0 2 2", "1 0 3 1", "0 0 3 2", "3 0 3 3", "2 0 4 4");
    }

    private static void ordersAreDueByNumbers() {
        Due.sentence("3 ORDERS", "then the ORDERS that match that minute are DUE, by numbers");
        CalendarOrders x = desk();
        for (int n = 0; n < 12; n++) {
            order(x, n % 2 == 0 ? "41 * * * *" : "41,42 * * * *", DROP, 9);
        }
        x.pass(1);
        String[] want = new String[12];
        for (int n = 0; n < 12; n++) {
            want[n] = "0 " + n + " 1 1";
        }
        lines(x, "all twelve", want);
        x.pass(1);
        lines(x, "each second one", "2 1 2 2", "2 3 2 2", "2 5 2 2", "2 7 2 2", "2 9 2 2", "2 11 2 2");
        x.cancel(0);
        x.cancel(11);
        order(x, "43 * * * *", TOGETHER, 9);
        x.pass(1);
        lines(x, "a new one has the least number", "0 0 3 3");
        for (int n = 0; n < 12; n++) {
            CalendarOrders y = desk();
            for (int o = 0; o < 12; o++) {
                order(y, o == n ? "42 * * * *" : "0 0 30 2 *", WAIT, 3);
            }
            y.pass(5);
            lines(y, "one alone of twelve", "0 " + n + " 2 2", "1 " + n + " 5 2");
        }
    }

    private static void dueOnesBegin() {
        Due.sentence("3 ORDERS", "A DUE one BEGINS, unless a run of that ORDER is under way");
        for (int overlap = TOGETHER; overlap <= WAIT; overlap++) {
            CalendarOrders x = desk();
            order(x, "43 * * * *", TOGETHER, 100);
            order(x, "41,43,45 * * * *", overlap, 2);
            x.pass(2);
            lines(x, "no run of it", "0 1 1 1");
            x.pass(2);
            lines(x, "a run of another order, and one that just ended", "1 1 3 1", "0 0 3 3", "0 1 3 3");
            x.pass(1);
            lines(x, "one that just ended", "1 1 5 3", "0 1 5 5");
            Due.is("none was dropped", x.told(1, 8), 0);
        }
    }

    private static void eightTogether() {
        Due.sentence("3 ORDERS", "with TOGETHER it begins all the same (8 of one ORDER at most, else it is DROPPED)");
        CalendarOrders x = desk();
        order(x, "* * * * *", TOGETHER, 9);
        order(x, "* * * * *", TOGETHER, 8);
        x.pass(7);
        Due.is("seven of each", x.count(5), 14);
        x.tear();
        x.pass(1);
        lines(x, "the eighth of each", "0 0 8 8", "0 1 8 8");
        Due.is("eight of each", x.count(5), 16);
        x.pass(1);
        lines(x, "the ninth is dropped, but where one has ended", "1 1 9 1", "2 0 9 9", "0 1 9 9");
        x.pass(1);
        lines(x, "where one has ended", "1 0 10 1", "1 1 10 2", "0 0 10 10", "0 1 10 10");
        Due.is("dropped of the first", x.told(0, 8), 1);
        Due.is("dropped of the second", x.told(1, 8), 0);
        Due.is("still eight of each", x.count(5), 16);
    }

    private static void dropped() {
        Due.sentence("3 ORDERS", "with DROP it is DROPPED");
        CalendarOrders x = desk();
        order(x, "* * * * *", DROP, 2);
        x.pass(4);
        lines(x, "while one runs", "0 0 1 1", "2 0 2 2", "1 0 3 1", "0 0 3 3", "2 0 4 4");
        Due.is("began", x.told(0, 7), 2);
        Due.is("dropped", x.told(0, 8), 2);
        Due.is("none waits", x.told(0, 6), 0);
    }

    private static void oneWaits() {
        Due.sentence("3 ORDERS", "with WAIT it WAITS (one at most: else it is DROPPED)");
        CalendarOrders x = desk();
        order(x, "* * * * *", WAIT, 10);
        x.pass(1);
        Due.is("none waits", x.told(0, 6), 0);
        x.pass(1);
        Due.is("one waits", x.told(0, 6), 1);
        x.pass(1);
        lines(x, "the next one is dropped", "0 0 1 1", "3 0 2 2", "2 0 3 3");
        Due.is("one waits still", x.told(0, 6), 1);
        Due.is("it has not begun", x.told(0, 7), 1);
        Due.is("one that waits does not run", x.count(5), 1);
        x.pass(8);
        x.tear();
        Due.is("the one that waited runs", x.told(0, 5), 1);
        Due.is("it has begun", x.told(0, 7), 2);
        Due.is("another one waits", x.told(0, 6), 1);
    }

    private static void asleepNothingIsLookedAt() {
        Due.sentence("3 ORDERS", "ASLEEP no minute is looked at, runs go on (they end when they are looked for, at WAKING).");
        CalendarOrders x = desk();
        order(x, "* * * * *", ALL, 100000, WAIT, 2);
        x.pass(2);
        x.tear();
        x.sleep();
        for (int n = 3; n <= 20; n++) {
            Due.is("the clock goes on", x.pass(1), START + n);
        }
        Due.is("no lines", x.count(3), 0);
        Due.is("it runs", x.told(0, 5), 1);
        Due.is("one waits", x.told(0, 6), 1);
        Due.is("began", x.told(0, 7), 1);
        x.cancel(order(x, "* * * * *", TOGETHER, 1));
        Due.is("still no lines", x.count(3), 0);
    }

    private static void wakingAtTheSameMinute() {
        Due.sentence("3 ORDERS", "falling ASLEEP having been at another one");
        CalendarOrders x = desk();
        order(x, "* * * * *", ALL, 100000, TOGETHER, 1);
        order(x, "* * * * *", ONCE, 100000, WAIT, 2);
        x.pass(1);
        x.tear();
        x.sleep();
        order(x, "* * * * *", ALL, 100000, TOGETHER, 1);
        x.pass(0);
        Due.is("wake() at the same minute", x.wake(), 0);
        Due.is("nothing ended", x.count(5), 2);
        lines(x, "nothing came");
        x.sleep();
        x.pass(1);
        Due.is("wake() a minute later", x.wake(), 4);
        lines(x, "a minute later", "1 0 2 1", "0 0 2 2", "3 1 2 2", "0 2 2 2");
    }

    private static void wakingEndsByMinutes() {
        Due.sentence("3 ORDERS", "first all runs that should have ended by then end, by the minutes of their ends, then by numbers of "
            + "ORDERS, then those begun first (the end is told for that minute");
        CalendarOrders x = desk();
        order(x, "41,43 * * * *", TOGETHER, 12);
        order(x, "41,42 * * * *", TOGETHER, 12);
        order(x, "43 * * * *", TOGETHER, 9);
        x.pass(3);
        x.tear();
        asleepFor(x, 97);
        lines(x, "by minutes, then by numbers", "1 2 12 3", "1 0 13 1", "1 1 13 1", "1 1 14 2", "1 0 15 3");
        CalendarOrders y = desk();
        order(y, "41-43 * * * *", ALL, 100, TOGETHER, 5);
        order(y, "42 * * * *", ALL, 100, TOGETHER, 5);
        asleepFor(y, 10);
        y.tear();
        asleepFor(y, 6);
        lines(y, "then those begun first", "1 0 15 1", "1 0 15 2", "1 0 15 3", "1 1 15 2");
    }

    private static void wakingEndsUpToNow() {
        Due.sentence("3 ORDERS", "all runs that should have ended by then end");
        for (int asleep = 8; asleep <= 10; asleep++) {
            CalendarOrders x = desk();
            order(x, "41 * * * *", TOGETHER, 10);
            x.pass(2);
            x.tear();
            asleepFor(x, asleep);
            if (asleep < 9) {
                lines(x, "a minute before its end");
                Due.is("it runs", x.count(5), 1);
                x.pass(1);
                lines(x, "it ends when it is come to", "1 0 11 1");
            } else {
                lines(x, "its end, and behind it", "1 0 11 1");
                Due.is("it does not run", x.count(5), 0);
            }
        }
    }

    private static void wakingBeginsWhatWaits() {
        Due.sentence("3 ORDERS", "one that WAITS begins then, at that minute, and may end likewise");
        for (int asleep = 18; asleep <= 20; asleep++) {
            CalendarOrders x = desk();
            order(x, "41,42 * * * *", WAIT, 10);
            order(x, "43 * * * *", TOGETHER, 8);
            x.pass(3);
            x.tear();
            asleepFor(x, asleep - 1);
            if (asleep < 19) {
                lines(x, "it began then", "1 0 11 1", "0 0 11 2", "1 1 11 3");
                Due.is("it runs", x.told(0, 5), 1);
            } else {
                lines(x, "it began then and ended", "1 0 11 1", "0 0 11 2", "1 1 11 3", "1 0 21 2");
                Due.is("it does not run", x.told(0, 5), 0);
            }
            Due.is("none waits", x.told(0, 6), 0);
            Due.is("two began", x.told(0, 7), 2);
        }
    }

    private static void missedMinutes() {
        Due.sentence("3 ORDERS", "what was MISSED: the minutes behind that of falling ASLEEP, up to that of WAKING, that match it");
        CalendarOrders x = desk();
        order(x, "40,50 * * * *", ALL, 100000, TOGETHER, 1);
        asleepFor(x, 9);
        lines(x, "that of falling asleep is not missed");
        asleepFor(x, 1);
        lines(x, "that of waking is", "0 0 10 10");
        x.pass(1);
        lines(x, "and not once more", "1 0 11 10");
        asleepFor(x, 49);
        lines(x, "one of an hour", "0 0 60 60");
        CalendarOrders y = new CalendarOrders();
        order(y, "* * * * *", ALL, 100000, TOGETHER, 1);
        asleepFor(y, 2);
        Due.is("from 0 on", y.count(3), 2);
        Due.is("0 is not missed", y.log(0, 3), 1);
        y.put(LAST - 2);
        y.tear();
        asleepFor(y, 2);
        Due.is("up to the last minute", y.count(3), 2);
        Due.is("the last minute is missed", y.log(1, 3), LAST);
    }

    private static void missedByNumbers() {
        Due.sentence("3 ORDERS", "Then, by numbers of ORDERS, what was MISSED");
        CalendarOrders x = desk();
        order(x, "45,49 * * * *", ALL, 100, TOGETHER, 3);
        order(x, "48 * * * *", ONCE, 100, TOGETHER, 3);
        order(x, "41,42 * * * *", ALL, 100, TOGETHER, 5);
        x.pass(2);
        x.tear();
        asleepFor(x, 8);
        lines(x, "ends first, then by numbers", "1 2 6 1", "1 2 7 2", "0 0 10 5", "0 0 10 9", "0 1 10 8");
    }

    private static void ways() {
        Due.sentence("3 ORDERS", "with SKIP none; with ONCE the latest one; with ALL all, the earliest first");
        CalendarOrders x = desk();
        order(x, "41-44 * * * *", SKIP, 100000, TOGETHER, 1);
        order(x, "41-44 * * * *", ONCE, 100000, TOGETHER, 1);
        order(x, "41-44 * * * *", ALL, 100000, TOGETHER, 1);
        order(x, "0 0 30 2 *", ALL, 100000, TOGETHER, 1);
        order(x, "0 0 30 2 *", ONCE, 100000, TOGETHER, 1);
        asleepFor(x, 10);
        lines(x, "four missed", "0 1 10 4", "0 2 10 1", "0 2 10 2", "0 2 10 3", "0 2 10 4");
        asleepFor(x, 10);
        lines(x, "none missed", "1 1 11 4", "1 2 11 1", "1 2 11 2", "1 2 11 3", "1 2 11 4");
        CalendarOrders y = desk();
        order(y, "41 * * * *", ONCE, 100000, TOGETHER, 1);
        order(y, "41 * * * *", ALL, 100000, TOGETHER, 1);
        asleepFor(y, 1);
        lines(y, "one missed", "0 0 1 1", "0 1 1 1");
    }

    private static void grace() {
        Due.sentence("3 ORDERS", "of these those that are not more than GRACE minutes ago");
        for (int grace = 0; grace <= 4; grace++) {
            CalendarOrders x = desk();
            order(x, "46,48 * * * *", ONCE, grace, TOGETHER, 1);
            order(x, "46,48 * * * *", ALL, grace, TOGETHER, 1);
            order(x, "50 * * * *", ALL, grace, TOGETHER, 1);
            asleepFor(x, 10);
            if (grace < 2) {
                lines(x, "none but the minute itself, grace " + grace, "0 2 10 10");
            } else if (grace < 4) {
                lines(x, "the latest, grace " + grace, "0 0 10 8", "0 1 10 8", "0 2 10 10");
            } else {
                lines(x, "both, grace " + grace, "0 0 10 8", "0 1 10 6", "0 1 10 8", "0 2 10 10");
            }
        }
        for (int more = 0; more <= 1; more++) {
            CalendarOrders x = desk();
            order(x, "41 16 1 1 *", ONCE, 100000, TOGETHER, 1);
            order(x, "41 16 1 1 *", ALL, 100000, TOGETHER, 1);
            order(x, "41 16 1 1 *", ALL, 99999, TOGETHER, 1);
            asleepFor(x, 100001 + more);
            if (more == 0) {
                lines(x, "100000 minutes ago", "0 0 100001 1", "0 1 100001 1");
            } else {
                lines(x, "100001 minutes ago");
            }
        }
        CalendarOrders y = desk();
        order(y, "* * * * *", ALL, 100000, DROP, 1);
        asleepFor(y, 100001);
        Due.is("all but that of falling asleep", y.count(3), 100001);
        Due.is("the first of them", y.log(0, 3), START + 1);
        y.tear();
        asleepFor(y, 3000000);
        Due.is("with the end of the run", y.count(3), 100002);
        Due.is("the first that is not too long ago", y.log(1, 3), START + 3100001 - 100000);
    }

    private static void missedOnesAreDueNow() {
        Due.sentence("3 ORDERS", "Each is DUE now.");
        CalendarOrders x = desk();
        order(x, "* * * * *", ALL, 100, TOGETHER, 5);
        order(x, "* * * * *", ALL, 100, DROP, 5);
        order(x, "* * * * *", ALL, 100, WAIT, 5);
        asleepFor(x, 3);
        lines(x, "three of each", "0 0 3 1", "0 0 3 2", "0 0 3 3", "0 1 3 1", "2 1 3 2", "2 1 3 3", "0 2 3 1", "3 2 3 2", "2 2 3 3");
        asleepFor(x, 6);
        Due.is("six run together", x.told(0, 5), 6);
        x.tear();
        CalendarOrders y = desk();
        order(y, "* * * * *", ALL, 100, TOGETHER, 50);
        asleepFor(y, 9);
        Due.is("eight at most", y.told(0, 5), 8);
        Due.is("the ninth is dropped", y.told(0, 8), 1);
        Due.is("its line", y.log(8, 0), 2);
        Due.is("its minute", y.log(8, 2), START + 9);
        Due.is("what it matched", y.log(8, 3), START + 9);
        CalendarOrders z = desk();
        order(z, "41,50 * * * *", ALL, 0, WAIT, 9);
        z.pass(1);
        z.tear();
        asleepFor(z, 9);
        lines(z, "a run that ends at waking makes room", "1 0 10 1", "0 0 10 10");
        Due.is("and takes as long from waking on", z.pass(8), START + 18);
        lines(z, "not yet");
        z.pass(1);
        lines(z, "ended", "1 0 19 10");
    }

    private static void lineOfEachKind() {
        Due.sentence("3 ORDERS", "BEGUN (kind 0), ENDED (1), DROPPED (2), WAITS (3), each with its ORDER, the minute it is told for (of 0, 2, "
            + "3 that of THE CLOCK, but at WAKING as told), and the minute that matched (of 1 that of its run)");
        CalendarOrders x = desk();
        order(x, "0 0 1 1 *", TOGETHER, 1);
        order(x, "* * * * *", WAIT, 3);
        x.pass(4);
        lines(x, "awake", "0 1 1 1", "3 1 2 2", "2 1 3 3", "1 1 4 1", "0 1 4 2", "3 1 4 4");
        asleepFor(x, 6);
        lines(x, "at waking", "1 1 7 2", "0 1 7 4", "1 1 10 4");
    }

    private static void threeHundredLines() {
        Due.sentence("3 ORDERS", "300 are kept, more are counted.");
        for (int n = 299; n <= 302; n++) {
            CalendarOrders x = desk();
            order(x, "* * * * *", DROP, 10000);
            x.pass(n);
            Due.is("lines of " + n, x.count(3), n);
            Due.is("the first", x.log(0, 2), START + 1);
            Due.is("line 298", x.log(298, 2), START + 299);
            if (n > 299) {
                Due.is("line 299", x.log(299, 2), START + 300);
            } else {
                Due.refuses("line 299", INDEX, () -> x.log(299, 0));
            }
            Due.refuses("line 300", INDEX, () -> x.log(300, 0));
            Due.is("tear()", x.tear(), n);
            x.pass(301);
            Due.is("300 are kept again", x.log(299, 2), START + n + 300);
            Due.refuses("but no more", INDEX, () -> x.log(300, 0));
            Due.is("lines", x.count(3), 301);
        }
        CalendarOrders y = desk();
        order(y, "* * * * *", ALL, 100000, WAIT, 10000);
        y.pass(290);
        y.sleep();
        y.pass(20);
        Due.is("wake() counts those that are not kept", y.wake(), 20);
        Due.is("the last line kept", y.log(299, 3), START + 300);
        Due.is("all lines", y.count(3), 310);
        Due.is("all dropped", y.told(0, 8), 308);
        fullLog();
    }

    /** What is not kept any more is begun, dropped and kept waiting all the same. */
    private static void fullLog() {
        CalendarOrders x = desk();
        order(x, "* * * * *", DROP, 10000);
        x.pass(300);
        order(x, "* * * * *", ALL, 100, TOGETHER, 5);
        order(x, "* * * * *", ALL, 100, WAIT, 5);
        order(x, "* * * * *", ONCE, 100, TOGETHER, 5);
        order(x, "* * * * *", ALL, 100, DROP, 5);
        x.sleep();
        x.pass(12);
        Due.is("lines that came", x.wake(), 12 + 12 + 1 + 12);
        int[][] want = {{1, 0, 1, 299}, {8, 0, 8, 4}, {1, 1, 1, 10}, {1, 0, 1, 0}, {1, 0, 1, 11}};
        for (int o = 0; o < 5; o++) {
            for (int what = 5; what <= 8; what++) {
                Due.is("told(" + o + ", " + what + ") with a full log", x.told(o, what), want[o][what - 5]);
            }
        }
        x.tear();
        x.pass(5);
        // Five lines for each of five minutes, and in the last one twelve for ends and what waited.
        Due.is("they end, and are told", x.count(3), 5 * 5 + (8 + 2 + 1 + 1));
    }

    private static void orderGoesAway() {
        Due.sentence("3 ORDERS", "An ORDER that goes away takes its runs along, which are not told any more.");
        CalendarOrders x = desk();
        order(x, "41,42 * * * *", WAIT, 5);
        order(x, "41-49 * * * *", TOGETHER, 20);
        order(x, "41 * * * *", TOGETHER, 5);
        x.pass(9);
        x.tear();
        Due.is("runs", x.count(5), 9);
        Due.is("one was dropped", x.told(1, 8), 1);
        x.cancel(1);
        Due.is("eight runs go", x.count(5), 1);
        x.cancel(0);
        Due.is("the last goes", x.count(5), 0);
        order(x, "0 0 1 1 *", WAIT, 5);
        order(x, "0 0 1 1 *", TOGETHER, 5);
        for (int n = 0; n < 2; n++) {
            Due.is("nothing runs of the new one", x.told(n, 5), 0);
            Due.is("nothing waits of the new one", x.told(n, 6), 0);
            Due.is("nothing began of the new one", x.told(n, 7), 0);
            Due.is("nothing was dropped of the new one", x.told(n, 8), 0);
        }
        x.pass(100);
        lines(x, "none is told any more", "0 2 61 61", "1 2 66 61");
    }

    private static void putClears() {
        Due.sentence("Promise 17", "THE CLOCK is put to a minute; runs that are under way and what WAITS are no more.");
        CalendarOrders x = desk();
        order(x, "* * * * *", TOGETHER, 50);
        order(x, "* * * * *", WAIT, 50);
        x.pass(9);
        Due.is("runs", x.count(5), 9);
        x.tear();
        x.put(START + 9);
        Due.is("no runs, at the same minute, too", x.count(5), 0);
        Due.is("none waits", x.told(1, 6), 0);
        Due.is("no line", x.count(3), 0);
        Due.is("began", x.told(0, 7), 8);
        Due.is("dropped", x.told(0, 8), 1);
        x.pass(1);
        lines(x, "from then on", "0 0 10 10", "0 1 10 10");
        x.pass(1);
        x.tear();
        x.put(START);
        x.pass(60);
        Due.is("none of the former ones ended", x.log(0, 0), 0);
        Due.is("it began at the next minute", x.log(0, 2), START + 1);
        CalendarOrders y = twelveTogether(50);
        y.pass(8);
        y.put(START + 8);
        for (int n = 0; n < 12; n++) {
            Due.is("no run of " + n, y.told(n, 5), 0);
        }
        Due.is("no run of all twelve", y.count(5), 0);
        x.put(0);
        Due.is("to the first minute", x.count(0), 0);
        x.put(LAST);
        Due.is("to the last minute", x.count(0), LAST);
        Due.is("awake", x.count(1), 1);
        Due.is("the orders stay", x.count(2), 2);
    }

    private static void putRefusesMinutes() {
        Due.sentence("Promise 17", "IllegalArgument: it is none.");
        CalendarOrders x = desk();
        order(x, "* * * * *", TOGETHER, 50);
        x.pass(3);
        for (int bad : new int[] {LEAST_INT, -1, LAST + 1, GREATEST_INT}) {
            Due.refuses("put(" + bad + ")", ARGUMENT, () -> x.put(bad));
            Due.is("the clock", x.count(0), START + 3);
            Due.is("the runs", x.count(5), 3);
        }
        Due.takes("put(0)", () -> x.put(0));
        Due.takes("put(last)", () -> x.put(LAST));
    }

    private static void putRefusesAsleep() {
        Due.sentence("Promise 17", "IllegalState: it is ASLEEP.");
        CalendarOrders x = desk();
        order(x, "* * * * *", TOGETHER, 50);
        x.pass(3);
        x.sleep();
        Due.refuses("put(5)", STATE, () -> x.put(5));
        Due.refuses("put() to where it is", STATE, () -> x.put(START + 3));
        Due.refuses("put(-1)", ARGUMENT, () -> x.put(-1));
        Due.refuses("put(last + 1)", ARGUMENT, () -> x.put(LAST + 1));
        Due.is("the clock", x.count(0), START + 3);
        Due.is("the runs", x.count(5), 3);
        x.wake();
        Due.takes("put(5) awake", () -> x.put(5));
    }

    private static void passAnswers() {
        Due.sentence("Promise 18", "So many minutes go by: where THE CLOCK is then.");
        CalendarOrders x = desk();
        order(x, "* * * * *", DROP, 10000);
        Due.is("none", x.pass(0), START);
        Due.is("nothing is due", x.count(3), 0);
        Due.is("one", x.pass(1), START + 1);
        Due.is("3000", x.pass(3000), START + 3001);
        Due.is("each was looked at", x.told(0, 8), 3000);
        Due.is("none again", x.pass(0), START + 3001);
        Due.is("nothing more is due", x.count(3), 3001);
    }

    private static void passRefusesAwake() {
        Due.sentence("Promise 18", "IllegalArgument: n is not 0 .. 3000");
        CalendarOrders x = desk();
        for (int bad : new int[] {LEAST_INT, -1, 3001, 3000000, GREATEST_INT}) {
            Due.refuses("pass(" + bad + ")", ARGUMENT, () -> x.pass(bad));
            Due.is("the clock", x.count(0), START);
        }
        Due.is("pass(0)", x.pass(0), START);
        Due.is("pass(3000)", x.pass(3000), START + 3000);
    }

    private static void passRefusesAsleep() {
        Due.sentence("Promise 18", "ASLEEP 0 .. 3000000");
        CalendarOrders x = desk();
        x.sleep();
        for (int bad : new int[] {LEAST_INT, -1, 3000001, GREATEST_INT}) {
            Due.refuses("pass(" + bad + ")", ARGUMENT, () -> x.pass(bad));
            Due.is("the clock", x.count(0), START);
        }
        Due.is("pass(0)", x.pass(0), START);
        Due.is("pass(3001)", x.pass(3001), START + 3001);
        Due.is("pass(3000000)", x.pass(3000000), START + 3003001);
        Due.is("and again", x.pass(3000000), START + 6003001);
        x.wake();
        Due.refuses("awake again", ARGUMENT, () -> x.pass(3001));
    }

    private static void passRefusesBehindTheLast() {
        Due.sentence("Promise 18", "or there are not so many");
        for (int left : new int[] {0, 1, 2999}) {
            CalendarOrders x = desk();
            order(x, "* * * * *", DROP, 10000);
            x.put(LAST - left);
            Due.refuses("one more than " + left, ARGUMENT, () -> x.pass(left + 1));
            Due.is("the clock", x.count(0), LAST - left);
            Due.is("nothing was due", x.count(3), 0);
            Due.is("pass(" + left + ")", x.pass(left), LAST);
            Due.is("each was looked at", x.count(3), left);
            Due.refuses("none is left", ARGUMENT, () -> x.pass(1));
            Due.is("pass(0)", x.pass(0), LAST);
        }
        for (int left : new int[] {0, 1, 3001, 2999999}) {
            CalendarOrders x = desk();
            x.put(LAST - left);
            x.sleep();
            Due.refuses("one more than " + left + ", asleep", ARGUMENT, () -> x.pass(left + 1));
            Due.is("the clock", x.count(0), LAST - left);
            Due.is("pass(" + left + "), asleep", x.pass(left), LAST);
            Due.refuses("none is left, asleep", ARGUMENT, () -> x.pass(1));
            Due.is("wake()", x.wake(), 0);
        }
    }

    private static void sleepRefuses() {
        Due.sentence("Promise 19", "It falls ASLEEP. IllegalState: it is ASLEEP.");
        CalendarOrders x = desk();
        order(x, "* * * * *", ALL, 100, TOGETHER, 1);
        x.sleep();
        Due.is("asleep", x.count(1), 0);
        Due.refuses("sleep()", STATE, x::sleep);
        x.pass(2);
        Due.refuses("sleep() later", STATE, x::sleep);
        Due.is("asleep still", x.count(1), 0);
        Due.is("it fell asleep at the first of them", x.wake(), 2);
        Due.takes("sleep() when awake", x::sleep);
        Due.refuses("asleep again", STATE, x::sleep);
    }

    private static void wakeCounts() {
        Due.sentence("Promise 20", "WAKING: how many lines came to THE LOG.");
        CalendarOrders x = desk();
        x.sleep();
        x.pass(50);
        Due.is("without orders", x.wake(), 0);
        Due.is("awake", x.count(1), 1);
        order(x, "* * * * *", ALL, 100000, WAIT, 3);
        x.pass(2);
        x.sleep();
        x.pass(5);
        Due.is("an end, a beginning, an end, and five missed", x.wake(), 8);
        Due.is("lines", x.count(3), 10);
        Due.is("where the clock is", x.count(0), START + 57);
        x.sleep();
        x.pass(1000);
        Due.is("more than are kept", x.wake(), 3 + 1000);
        Due.is("all lines", x.count(3), 1013);
    }

    private static void wakeRefuses() {
        Due.sentence("Promise 20", "IllegalState: it is AWAKE.");
        CalendarOrders x = new CalendarOrders();
        Due.refuses("of a new object", STATE, x::wake);
        order(x, "* * * * *", ALL, 100000, TOGETHER, 3);
        x.pass(2);
        Due.refuses("awake", STATE, x::wake);
        Due.is("no lines of it", x.count(3), 2);
        x.sleep();
        x.pass(5);
        Due.is("asleep", x.wake(), 7);
        Due.refuses("awake again", STATE, x::wake);
        Due.is("no lines of it again", x.count(3), 9);
    }

    private static void logRefusesLines() {
        Due.sentence("Terms", "IndexOutOfBounds: no such zone, order, line of THE LOG. (line)");
        CalendarOrders x = desk();
        Due.refuses("an empty log", INDEX, () -> x.log(0, 0));
        order(x, "* * * * *", DROP, 10000);
        x.pass(1);
        Due.is("line 0", x.log(0, 0), 0);
        for (int bad : new int[] {LEAST_INT, -1, 1, 299, 300, GREATEST_INT}) {
            Due.refuses("line " + bad, INDEX, () -> x.log(bad, 0));
        }
        x.pass(1);
        Due.is("line 1", x.log(1, 0), 2);
        Due.refuses("line 2", INDEX, () -> x.log(2, 0));
        x.tear();
        Due.refuses("torn", INDEX, () -> x.log(0, 0));
        x.pass(3000);
        Due.is("line 299", x.log(299, 2), START + 302);
        for (int bad : new int[] {LEAST_INT, -1, 300, 301, 2999, 3000, GREATEST_INT}) {
            Due.refuses("line " + bad + " of 3000", INDEX, () -> x.log(bad, 0));
        }
    }

    private static void logRefusesWhats() {
        Due.sentence("Promise 21", "its kind (what = 0), ORDER (1), minute (2), the minute that matched (3). IllegalArgument: another what.");
        CalendarOrders x = desk();
        order(x, "0 0 1 1 *", TOGETHER, 1);
        order(x, "45 * * * *", TOGETHER, 2);
        x.pass(7);
        int[] want = {1, 1, START + 7, START + 5};
        for (int what = 0; what <= 3; what++) {
            Due.is("log(1, " + what + ")", x.log(1, what), want[what]);
        }
        for (int bad : new int[] {LEAST_INT, -1, 4, GREATEST_INT}) {
            Due.refuses("log(1, " + bad + ")", ARGUMENT, () -> x.log(1, bad));
        }
    }

    private static void tearEmpties() {
        Due.sentence("Promise 22", "THE LOG is empty then: how many lines there were.");
        CalendarOrders x = desk();
        Due.is("none", x.tear(), 0);
        order(x, "* * * * *", DROP, 10000);
        x.pass(1);
        Due.is("one", x.tear(), 1);
        Due.is("none again", x.tear(), 0);
        Due.is("empty", x.count(3), 0);
        Due.refuses("no line", INDEX, () -> x.log(0, 0));
        x.pass(300);
        Due.is("300", x.tear(), 300);
        x.pass(301);
        Due.is("301", x.tear(), 301);
        Due.is("the run goes on", x.count(5), 1);
        Due.is("what was dropped stays told", x.told(0, 8), 601);
        x.sleep();
        x.pass(5);
        Due.is("asleep", x.tear(), 0);
    }

    private static void countTells() {
        Due.sentence("Promise 23", "Where THE CLOCK is (what = 0), whether it is AWAKE (1: 1 or 0), ORDERS (2), lines of THE LOG (3), bytes on "
            + "the tape (4), runs under way (5).");
        CalendarOrders x = new CalendarOrders();
        int[] empty = {0, 1, 0, 0, 0, 0};
        for (int what = 0; what < 6; what++) {
            Due.is("count(" + what + ") of a new one", x.count(what), empty[what]);
        }
        x.put(LAST - 9);
        for (int n = 0; n < 12; n++) {
            order(x, "* * * * *", TOGETHER, 10000);
        }
        for (int n = 0; n < 20; n++) {
            x.feed(0, 8);
        }
        x.pass(9);
        x.sleep();
        int[] full = {LAST, 0, 12, 108, 160, 96};
        for (int what = 0; what < 6; what++) {
            Due.is("count(" + what + ") of a full one", x.count(what), full[what]);
        }
    }

    private static void countRefuses() {
        Due.sentence("Promise 23", "IllegalArgument: another what.");
        CalendarOrders x = new CalendarOrders();
        for (int bad : new int[] {LEAST_INT, -1, 6, GREATEST_INT}) {
            Due.refuses("count(" + bad + ")", ARGUMENT, () -> x.count(bad));
        }
        Due.is("count(0)", x.count(0), 0);
        Due.is("count(5)", x.count(5), 0);
    }

    private static void indexFirst() {
        Due.sentence("Terms", "Of several the first in this order. (the desk's calls)");
        CalendarOrders x = desk();
        Due.refuses("no line, no what", INDEX, () -> x.log(0, 4));
        Due.refuses("no line below 0, no what", INDEX, () -> x.log(-1, -1));
        x.sleep();
        Due.refuses("no minute, asleep", ARGUMENT, () -> x.put(-1));
        Due.refuses("no minute above, asleep", ARGUMENT, () -> x.put(LAST + 1));
        Due.refuses("a minute, asleep", STATE, () -> x.put(0));
    }
}
