import java.time.LocalDate;
import java.time.temporal.ChronoUnit;

/** Promises 1 to 5: a new object, zone, change, civil, minute. */
public final class TimeTest {
    private static final int LAST = 157785119;
    private static final Class<IndexOutOfBoundsException> INDEX = IndexOutOfBoundsException.class;
    private static final Class<IllegalArgumentException> ARGUMENT = IllegalArgumentException.class;
    private static final Class<IllegalStateException> STATE = IllegalStateException.class;

    public static void main(String[] args) {
        newObject();
        zone();
        change();
        civilOfEveryDay();
        civilAtTheEdges();
        civilRefuses();
        minute();
        minuteRefuses();
        Due.end("TimeTest");
    }

    private static void newObject() {
        CalendarOrders x = new CalendarOrders();
        int[] counts = {0, 1, 0, 0, 0, 0};
        for (int what = 0; what < 6; what++) {
            Due.is("promise 1: count " + what, x.count(what), counts[what]);
        }
        for (int z = 0; z < 4; z++) {
            Due.is("promise 1: civil year of zone " + z, x.civil(z, 0, 0), 1900);
            Due.is("promise 1: hour of zone " + z, x.civil(z, 0, 4), 0);
            Due.is("promise 1: last hour of zone " + z, x.civil(z, LAST, 4), 23);
            Due.is("promise 1: changes of zone " + z, x.change(z, 0, 5), 1);
        }
        Due.is("promise 1: fault", x.fault(), 0);
        Due.is("promise 1: tear", x.tear(), 0);
        for (int o = -1; o <= 12; o++) {
            int order = o;
            Due.refuses("promise 1: no order " + o, INDEX, () -> x.told(order, 0));
        }
        Due.refuses("promise 1: no line", INDEX, () -> x.log(0, 0));
        Due.refuses("promise 1: awake", STATE, x::wake);
    }

    private static void zone() {
        CalendarOrders x = new CalendarOrders();
        x.zone(1, 90);
        Due.is("promise 2: other zones stay", x.civil(0, 0, 4), 0);
        Due.is("promise 2: hour", x.civil(1, 0, 4), 1);
        Due.is("promise 2: minute", x.civil(1, 0, 5), 30);
        x.change(1, 100, 0);
        x.zone(1, -1439);
        Due.is("promise 2: no change any more", x.civil(1, 100, 0), 1899);
        Due.is("promise 2: changes begin again", x.change(1, 50, 0), 1);
        x.zone(3, 1439);
        Due.is("promise 2: greatest offset", x.civil(3, 0, 5), 59);
        Due.refuses("promise 2: zone -1", INDEX, () -> x.zone(-1, 0));
        Due.refuses("promise 2: zone 4 first", INDEX, () -> x.zone(4, 5000));
        Due.refuses("promise 2: offset 1440", ARGUMENT, () -> x.zone(1, 1440));
        Due.refuses("promise 2: offset -1440", ARGUMENT, () -> x.zone(1, -1440));
        Due.refuses("promise 2: least int", ARGUMENT, () -> x.zone(1, Integer.MIN_VALUE));
        Due.is("promise 2: what throws changes nothing", x.change(1, 51, 0), 2);
    }

    private static void change() {
        CalendarOrders x = new CalendarOrders();
        Due.is("promise 3: at 0", x.change(2, 0, 60), 1);
        Due.is("promise 3: holds at 0", x.civil(2, 0, 4), 1);
        Due.refuses("promise 3: same minute", ARGUMENT, () -> x.change(2, 0, 0));
        Due.refuses("promise 3: minute -1", ARGUMENT, () -> x.change(2, -1, 0));
        Due.refuses("promise 3: no such minute", ARGUMENT, () -> x.change(2, LAST + 1, 0));
        Due.refuses("promise 3: offset", ARGUMENT, () -> x.change(2, 9, 1440));
        Due.refuses("promise 3: zone first", INDEX, () -> x.change(4, -1, 1440));
        for (int n = 2; n <= 20; n++) {
            Due.is("promise 3: change " + n, x.change(2, n * 10, n), n);
        }
        Due.is("promise 3: the minute before", x.civil(2, 199, 5), (199 + 19) % 60);
        Due.is("promise 3: from the minute on", x.civil(2, 200, 5), (200 + 20) % 60);
        Due.refuses("promise 3: 21st", STATE, () -> x.change(2, 300, 0));
        Due.refuses("promise 3: argument before state", ARGUMENT, () -> x.change(2, 200, 0));
        Due.refuses("promise 3: offset before state", ARGUMENT, () -> x.change(2, 300, 9999));
        Due.is("promise 3: the last minute", x.change(1, LAST, 1439), 1);
        Due.is("promise 3: only there", x.civil(1, LAST - 1, 0), 2199);
        Due.is("promise 3: there", x.civil(1, LAST, 0), 2200);
    }

    private static void civilOfEveryDay() {
        CalendarOrders x = new CalendarOrders();
        LocalDate date = LocalDate.of(1900, 1, 1);
        for (int day = 0; day * 1440 < LAST; day++) {
            // Nothing is promised of an object after 512 calls.
            if (day % 64 == 0) {
                x = new CalendarOrders();
            }
            int minute = day * 1440 + day % 1440;
            int[] want = {date.getYear(), date.getMonthValue(), date.getDayOfMonth(), date.getDayOfWeek().getValue() % 7,
                day % 1440 / 60, day % 60, date.getDayOfYear(), date.lengthOfMonth()};
            for (int what = 0; what < 8; what++) {
                Due.is("promise 4: civil(0, " + minute + ", " + what + ")", x.civil(0, minute, what), want[what]);
            }
            date = date.plusDays(1);
        }
    }

    private static void civilAtTheEdges() {
        CalendarOrders x = new CalendarOrders();
        x.zone(1, -1);
        x.zone(2, 1);
        int[] before = {1899, 12, 31, 0, 23, 59, 365, 31};
        int[] behind = {2200, 1, 1, 3, 0, 0, 1, 31};
        for (int what = 0; what < 8; what++) {
            Due.is("promise 4: in 1899, " + what, x.civil(1, 0, what), before[what]);
            Due.is("promise 4: in 2200, " + what, x.civil(2, LAST, what), behind[what]);
        }
        Due.is("promise 4: 1900 is no leap year", x.civil(0, 59 * 1440, 1), 3);
        Due.is("promise 4: 2000 is one", x.civil(0, at(2000, 2, 29), 7), 29);
        Due.is("promise 4: 2100 is none", x.civil(0, at(2100, 12, 31), 6), 365);
    }

    private static void civilRefuses() {
        CalendarOrders x = new CalendarOrders();
        Due.refuses("promise 4: zone first", INDEX, () -> x.civil(-1, -1, -1));
        Due.refuses("promise 4: minute -1", ARGUMENT, () -> x.civil(0, -1, 0));
        Due.refuses("promise 4: minute behind", ARGUMENT, () -> x.civil(0, LAST + 1, 0));
        Due.refuses("promise 4: what -1", ARGUMENT, () -> x.civil(0, 0, -1));
        Due.refuses("promise 4: what 8", ARGUMENT, () -> x.civil(0, 0, 8));
    }

    private static void minute() {
        CalendarOrders x = new CalendarOrders();
        Due.is("promise 5: first", x.minute(0, 1900, 1, 1, 0, 0), 0);
        Due.is("promise 5: last", x.minute(0, 2199, 12, 31, 23, 59), LAST);
        Due.is("promise 5: behind", x.minute(0, 2200, 1, 1, 0, 0), -1);
        Due.is("promise 5: before", x.minute(0, 1899, 12, 31, 23, 59), -1);
        Due.is("promise 5: far before", x.minute(0, 1899, 1, 1, 0, 0), -1);
        Due.is("promise 5: far behind", x.minute(0, 2200, 12, 31, 23, 59), -1);
        int day = at(2010, 6, 15);
        x.zone(1, 60);
        x.change(1, day + 120, 0);
        x.change(1, day + 600, 90);
        Due.is("promise 5: comes twice, the least", x.minute(1, 2010, 6, 15, 2, 30), day + 90);
        Due.is("promise 5: once before", x.minute(1, 2010, 6, 15, 1, 59), day + 59);
        Due.is("promise 5: the later stretch", x.minute(1, 2010, 6, 15, 3, 0), day + 180);
        Due.is("promise 5: not at all", x.minute(1, 2010, 6, 15, 10, 0), -1);
        Due.is("promise 5: behind the gap", x.minute(1, 2010, 6, 15, 11, 30), day + 600);
        x.zone(2, -1439);
        Due.is("promise 5: in 1899", x.minute(2, 1899, 12, 31, 0, 1), 0);
        Due.is("promise 5: none of 1899", x.minute(2, 1899, 12, 31, 0, 0), -1);
        x.zone(3, 1439);
        Due.is("promise 5: in 2200", x.minute(3, 2200, 1, 1, 23, 58), LAST);
        Due.is("promise 5: none of 2200", x.minute(3, 2200, 1, 1, 23, 59), -1);
        x.zone(3, 0);
        x.change(3, 0, 5);
        Due.is("promise 5: a change at 0 leaves nothing before", x.minute(3, 1900, 1, 1, 0, 0), -1);
    }

    private static void minuteRefuses() {
        CalendarOrders x = new CalendarOrders();
        Due.refuses("promise 5: zone first", INDEX, () -> x.minute(4, 0, 0, 0, 0, 0));
        Due.refuses("promise 5: 1898", ARGUMENT, () -> x.minute(0, 1898, 1, 1, 0, 0));
        Due.refuses("promise 5: 2201", ARGUMENT, () -> x.minute(0, 2201, 1, 1, 0, 0));
        Due.refuses("promise 5: month 0", ARGUMENT, () -> x.minute(0, 2000, 0, 1, 0, 0));
        Due.refuses("promise 5: month 13", ARGUMENT, () -> x.minute(0, 2000, 13, 1, 0, 0));
        Due.refuses("promise 5: day 0", ARGUMENT, () -> x.minute(0, 2000, 1, 0, 0, 0));
        Due.refuses("promise 5: 30 February", ARGUMENT, () -> x.minute(0, 2000, 2, 30, 0, 0));
        Due.refuses("promise 5: 29 February 1900", ARGUMENT, () -> x.minute(0, 1900, 2, 29, 0, 0));
        Due.refuses("promise 5: 31 April", ARGUMENT, () -> x.minute(0, 2000, 4, 31, 0, 0));
        Due.refuses("promise 5: hour 24", ARGUMENT, () -> x.minute(0, 2000, 1, 1, 24, 0));
        Due.refuses("promise 5: hour -1", ARGUMENT, () -> x.minute(0, 2000, 1, 1, -1, 0));
        Due.refuses("promise 5: minute 60", ARGUMENT, () -> x.minute(0, 2000, 1, 1, 0, 60));
        Due.refuses("promise 5: minute -1", ARGUMENT, () -> x.minute(0, 2000, 1, 1, 0, -1));
    }

    static int at(int year, int month, int day) {
        return (int) ChronoUnit.DAYS.between(LocalDate.of(1900, 1, 1), LocalDate.of(year, month, day)) * 1440;
    }
}
