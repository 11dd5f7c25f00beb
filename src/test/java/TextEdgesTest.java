import java.time.DayOfWeek;
import java.time.LocalDate;
import java.time.YearMonth;
import java.util.function.IntPredicate;

/** The boundary cases of 2 TEXTS and of promises 6, 7, 8 and 11, sentence by sentence. */
public final class TextEdgesTest {
    private static final int LEAST_INT = Integer.MIN_VALUE;
    private static final int GREATEST_INT = Integer.MAX_VALUE;
    private static final String FIGURES = "0123456789";
    // What stands before each FIELD, when all before it is *.
    private static final String[] AHEAD = {"", "* ", "* * ", "* * * ", "* * * * ", "* * * * * "};
    private static final String[] BEHIND = {" * * * *", " * * *", " * *", " *", "", ""};
    private static final int[] LEAST = {0, 0, 1, 1, 0, 1900};
    private static final int[] GREATEST = {59, 23, 31, 12, 7, 2199};
    private static final Class<IndexOutOfBoundsException> INDEX = IndexOutOfBoundsException.class;
    private static final Class<IllegalArgumentException> ARGUMENT = IllegalArgumentException.class;
    private static final Class<IllegalStateException> STATE = IllegalStateException.class;

    public static void main(String[] args) {
        fullTape();
        blanksAhead();
        words();
        leastAndGreatestValues();
        blanksBetween();
        items();
        figuresOfValues();
        names();
        steps();
        stretchesAndSteps();
        lastDays();
        daysBeforeTheLast();
        lastWorkingDays();
        nearestWorkingDays();
        lastWeekdays();
        kthWeekdays();
        noBlanksWithin();
        yearsIfThereAreNone();
        rightDays();
        theFirstFault();
        bytesThatMayStand();
        theEnd();
        outOfBounds();
        theSecondIsLess();
        feedTakesTheLowestBytes();
        feedRefusesNumbers();
        feedRefusesMoreThan160();
        orderEmptiesTheTape();
        orderTellsThePlace();
        orderRefusesArguments();
        orderRefusesThe13th();
        faultOfTheLatest();
        fieldsAsBits();
        fieldRefuses();
        Due.end("TextEdgesTest");
    }

    private static String times(int n, String part) {
        return part.repeat(n);
    }

    private static String in(int field, String item) {
        return AHEAD[field] + item + BEHIND[field];
    }

    private static void fullTape() {
        Due.sentence("2 TEXTS", "THE TAPE has at most 160 bytes.");
        Texts.right(times(151, " ") + "* * * * *");
        Texts.right("* * * * *" + times(151, " "));
        Texts.right(times(154, " ") + "@daily");
        Texts.right(times(75, "5,") + "* * * *  *");
        Texts.faulty("* * * *" + times(153, " "), 160, 1);
        Texts.faulty("* * * * *" + times(150, " ") + "x", 159, 1);
        Texts.faulty(times(160, " "), 160, 1);
        Texts.faulty(times(80, "5,"), 160, 1);
        Texts.faulty(times(159, " ") + "*", 160, 1);
        Texts.faulty("* * " + times(78, "L,"), 160, 1);
        Texts.faulty(times(160, "x"), 0, 1);
    }

    private static void blanksAhead() {
        Due.sentence("2 TEXTS", "A text: perhaps blanks (32), then one of");
        for (String rest : new String[] {"* * * * *", "@daily", "0 0 1 1 0 1900"}) {
            for (int n = 0; n <= 9; n++) {
                Texts.right(times(n, " ") + rest);
            }
            for (char other : new char[] {0, 9, 10, 13, 31, 33, 95, 160}) {
                Texts.faulty(other + rest, 0, 1);
                Texts.faulty("  " + other + rest, 2, 1);
            }
        }
    }

    private static void words() {
        Due.sentence("2 TEXTS", "which mean 0 * * * *; 0 0 * * *; 0 0 * * 0; 0 0 1 * *; 0 0 1 1 *");
        String[] words = {"@hourly", "@daily", "@weekly", "@monthly", "@yearly"};
        String[] same = {"0 * * * *", "0 0 * * *", "0 0 * * 0", "0 0 1 * *", "0 0 1 1 *"};
        for (int w = 0; w < 5; w++) {
            CalendarOrders x = new CalendarOrders();
            Due.order(x, words[w]);
            Due.order(x, same[w]);
            for (int f = 0; f < 5; f++) {
                Due.is("field " + f + " of " + words[w], x.field(0, f), x.field(1, f));
            }
            for (int what = 9; what <= 10; what++) {
                Due.is("told " + what + " of " + words[w], x.told(0, what), x.told(1, what));
            }
            Due.is("between of " + words[w], x.between(0, 0, 28800000), x.between(1, 0, 28800000));
            for (int n = 1; n < words[w].length(); n++) {
                Texts.faulty(words[w].substring(0, n), n, 1);
                Texts.faulty(words[w].substring(0, n) + "X", n, 1);
            }
            Texts.faulty(words[w] + "s", words[w].length(), 1);
            Texts.faulty(words[w] + " *", words[w].length() + 1, 1);
            Texts.right(words[w] + " ");
        }
        Texts.faulty("@@daily", 1, 1);
        Texts.faulty("@ daily", 1, 1);
        Texts.faulty("0 @daily", 2, 1);
    }

    private static void leastAndGreatestValues() {
        Due.sentence("2 TEXTS", "MINUTE (0 .. 59), HOUR (0 .. 23), DAY (1 .. 31), MONTH (1 .. 12), WEEKDAY (0 .. 7, 7 being 0), "
            + "and perhaps YEAR (1900 .. 2199)");
        for (int f = 0; f < 6; f++) {
            int place = AHEAD[f].length();
            Texts.right(in(f, "" + LEAST[f]));
            Texts.right(in(f, "" + GREATEST[f]));
            Texts.right(in(f, LEAST[f] + "-" + GREATEST[f]));
            Texts.faulty(in(f, "" + (GREATEST[f] + 1)), place, 2);
            Texts.faulty(in(f, "9999"), place, 2);
            Texts.faulty(in(f, LEAST[f] + "-" + (GREATEST[f] + 1)), place + ("" + LEAST[f]).length() + 1, 2);
            if (LEAST[f] > 0) {
                Texts.faulty(in(f, "" + (LEAST[f] - 1)), place, 2);
                Texts.faulty(in(f, "0"), place, 2);
            } else {
                Texts.faulty(in(f, "-1"), place, 1);
            }
            if (f < 5) {
                long all = 0;
                for (int n = LEAST[f]; n <= (f == 4 ? 6 : GREATEST[f]); n++) {
                    all |= 1L << n;
                }
                Texts.field(in(f, LEAST[f] + "-" + GREATEST[f]), f, all);
            }
        }
        Texts.field(in(4, "7"), 4, 1L);
        Texts.field(in(4, "0"), 4, 1L);
        Texts.days(in(5, "1900"), 3, 1900, 1, Texts.ALL_OF_31);
        Texts.days(in(5, "1900"), 3, 1901, 1, "");
        Texts.days(in(5, "2199"), 3, 2199, 12, Texts.ALL_OF_31);
        Texts.days(in(5, "2199"), 3, 2198, 12, "");
    }

    private static void blanksBetween() {
        Due.sentence("2 TEXTS", "with one or more blanks between; then perhaps blanks");
        Texts.right("* * * * *");
        Texts.right("*  *   *    *     *      *       ");
        Texts.right("0 0 1 1 0 1900 ");
        Texts.faulty("*** * *", 1, 1);
        Texts.faulty("* * * **", 7, 1);
        Texts.faulty("* * * * * **", 11, 1);
        Texts.faulty("* * * *\t*", 7, 1);
        Texts.faulty("* * * * *\n", 9, 1);
        Texts.faulty("* * * * * *\n", 11, 1);
        Texts.faulty("* * * * * * *", 12, 1);
        Texts.faulty("* * * * * *   2000", 14, 1);
    }

    private static void items() {
        Due.sentence("2 TEXTS", "FIELD: ITEM { , ITEM }");
        for (int f = 0; f < 6; f++) {
            int place = AHEAD[f].length();
            String least = "" + LEAST[f];
            Texts.right(in(f, least));
            Texts.right(in(f, least + "," + least));
            Texts.right(in(f, "*,*," + least + ",*/2"));
            Texts.faulty(in(f, "," + least), place, 1);
            Texts.faulty(in(f, least + ",," + least), place + least.length() + 1, 1);
            Texts.faulty(in(f, "*,"), place + 2, 1);
        }
        Texts.right(times(75, "7,") + "8 * * * *");
        Texts.field(times(75, "7,") + "8 * * * *", 0, Texts.bits(7, 8));
        Texts.field("0,59 * * * *", 0, Texts.bits(0, 59));
    }

    private static void figuresOfValues() {
        Due.sentence("2 TEXTS", "VALUE: 1 to 4 figures");
        for (int f = 0; f < 5; f++) {
            int place = AHEAD[f].length();
            for (String value : new String[] {"1", "01", "001", "0001"}) {
                Texts.field(in(f, value), f, Texts.bits(1));
                Texts.field(in(f, value + "-" + value), f, Texts.bits(1));
            }
            Texts.faulty(in(f, "00001"), place + 4, 1);
            Texts.faulty(in(f, "99999"), place + 4, 1);
            Texts.faulty(in(f, "1-00001"), place + 6, 1);
            Texts.faulty(in(f, "1-"), place + 2, 1);
        }
        Texts.faulty(in(5, "19000"), 14, 1);
        Texts.faulty(in(5, "01900"), 14, 1);
        Texts.faulty(in(5, "190"), 10, 2);
        Texts.faulty(in(5, "19"), 10, 2);
    }

    private static void names() {
        Due.sentence("2 TEXTS", "or in MONTH jan feb mar apr may jun jul aug sep oct nov dec, in WEEKDAY sun mon tue wed thu fri sat");
        String[] months = {"jan", "feb", "mar", "apr", "may", "jun", "jul", "aug", "sep", "oct", "nov", "dec"};
        String[] weekdays = {"sun", "mon", "tue", "wed", "thu", "fri", "sat"};
        for (int m = 0; m < 12; m++) {
            Texts.field(in(3, months[m]), 3, Texts.bits(m + 1));
            Texts.field(in(3, months[m] + "-" + months[m]), 3, Texts.bits(m + 1));
            Texts.field(in(3, months[m] + "/1"), 3, (1L << 13) - (1L << m + 1));
            Texts.faulty(in(3, months[m].toUpperCase()), 6, 1);
            Texts.faulty(in(3, months[m] + "1"), 9, 1);
            for (int f : new int[] {0, 1, 2, 5}) {
                Texts.faulty(in(f, months[m]), AHEAD[f].length(), 1);
            }
        }
        for (int w = 0; w < 7; w++) {
            Texts.field(in(4, weekdays[w]), 4, Texts.bits(w));
            Texts.field(in(4, weekdays[w] + "/1"), 4, (1L << 7) - (1L << w));
            Texts.faulty(in(4, weekdays[w].toUpperCase()), 8, 1);
            Texts.faulty(in(4, weekdays[w] + "s"), 11, 1);
            for (int f : new int[] {0, 1, 2, 5}) {
                Texts.faulty(in(f, weekdays[w]), AHEAD[f].length(), 1);
            }
        }
        Texts.field(in(3, "jan-dec"), 3, (1L << 13) - 2);
        Texts.field(in(3, "1-dec,jan-12"), 3, (1L << 13) - 2);
        Texts.field(in(4, "sun-sat"), 4, 127L);
        Texts.field(in(4, "sun-7"), 4, 127L);
    }

    private static void steps() {
        Due.sentence("2 TEXTS", "STEP: 1 to 4 figures, 1 .. 1000.");
        for (int f = 0; f < 6; f++) {
            int place = AHEAD[f].length();
            int value = place + ("" + LEAST[f]).length();
            for (String step : new String[] {"1", "01", "001", "0001", "999", "1000"}) {
                Texts.right(in(f, "*/" + step));
                Texts.right(in(f, LEAST[f] + "/" + step));
                Texts.right(in(f, LEAST[f] + "-" + LEAST[f] + "/" + step));
            }
            for (String step : new String[] {"0", "00", "0000", "1001", "9999"}) {
                Texts.faulty(in(f, "*/" + step), place + 2, 2);
                Texts.faulty(in(f, LEAST[f] + "/" + step), value + 1, 2);
            }
            for (String step : new String[] {"00001", "10000", "00000"}) {
                Texts.faulty(in(f, "*/" + step), place + 6, 1);
            }
            Texts.faulty(in(f, "*/"), place + 2, 1);
            Texts.faulty(in(f, "*/-1"), place + 2, 1);
            Texts.faulty(in(f, "*/1/1"), place + 3, 1);
        }
    }

    private static void stretchesAndSteps() {
        Due.sentence("2 TEXTS", "VALUE / STEP from it to the greatest that there is (of WEEKDAY 6, or 7, if it is 7); with / STEP each "
            + "STEP-th one, the first one first");
        Texts.field(in(0, "*/59"), 0, Texts.bits(0, 59));
        Texts.field(in(0, "*/60"), 0, Texts.bits(0));
        Texts.field(in(0, "*/1000"), 0, Texts.bits(0));
        Texts.field(in(0, "59/1"), 0, Texts.bits(59));
        Texts.field(in(0, "58/1"), 0, Texts.bits(58, 59));
        Texts.field(in(0, "0/59"), 0, Texts.bits(0, 59));
        Texts.field(in(0, "1/59"), 0, Texts.bits(1));
        Texts.field(in(0, "5-9/4"), 0, Texts.bits(5, 9));
        Texts.field(in(0, "5-9/5"), 0, Texts.bits(5));
        Texts.field(in(0, "5-8/4"), 0, Texts.bits(5));
        Texts.field(in(0, "5-5/1"), 0, Texts.bits(5));
        Texts.field(in(1, "*/23"), 1, Texts.bits(0, 23));
        Texts.field(in(1, "*/24"), 1, Texts.bits(0));
        Texts.field(in(1, "23/7"), 1, Texts.bits(23));
        Texts.field(in(2, "*/30"), 2, Texts.bits(1, 31));
        Texts.field(in(2, "*/31"), 2, Texts.bits(1));
        Texts.field(in(2, "31/1"), 2, Texts.bits(31));
        Texts.field(in(2, "30/1"), 2, Texts.bits(30, 31));
        Texts.field(in(3, "*/11"), 3, Texts.bits(1, 12));
        Texts.field(in(3, "*/12"), 3, Texts.bits(1));
        Texts.field(in(3, "12/1"), 3, Texts.bits(12));
        Texts.field(in(4, "0/6"), 4, Texts.bits(0, 6));
        Texts.field(in(4, "1/6"), 4, Texts.bits(1));
        Texts.field(in(4, "6/1"), 4, Texts.bits(6));
        Texts.field(in(4, "5/1"), 4, Texts.bits(5, 6));
        Texts.field(in(4, "7/1"), 4, Texts.bits(0));
        Texts.field(in(4, "1-7/6"), 4, Texts.bits(0, 1));
        Texts.field(in(4, "2-7/5"), 4, Texts.bits(0, 2));
        Texts.field(in(4, "6-7"), 4, Texts.bits(0, 6));
        Texts.field(in(4, "*/7"), 4, Texts.bits(0));
        Texts.field(in(4, "*/6"), 4, Texts.bits(0, 6));
        Texts.field(in(4, "*/5"), 4, Texts.bits(0, 5));
        years("*/299", 1900, 2199);
        years("*/300", 1900);
        years("2198/1", 2198, 2199);
        years("2199/1000", 2199);
        years("1963-1965/2", 1963, 1965);
        years("1900,2199", 1900, 2199);
        years("1900/100", 1900, 2000, 2100);
    }

    /** The years that are in a text's YEAR, of all that there are and one on each side. */
    private static void years(String item, int... want) {
        CalendarOrders x = new CalendarOrders();
        Due.order(x, in(5, item));
        int next = 0;
        for (int year = 1899; year <= 2200; year++) {
            boolean due = next < want.length && want[next] == year;
            Due.is("year " + year + " of " + item, x.day(0, 3, year, 1, 1), due);
            next += due ? 1 : 0;
        }
    }

    /** Asks for every day of years of all kinds; the last day of a month lies on each weekday in them. */
    private static void everyDay(String text, int how, DayRule rule) {
        int[] years = {1899, 1900, 1904, 1999, 2000, 2009, 2020, 2021, 2022, 2023, 2024, 2028, 2100, 2199, 2200};
        for (int year : years) {
            CalendarOrders x = new CalendarOrders();
            Due.order(x, text);
            for (LocalDate d = LocalDate.of(year, 1, 1); d.getYear() == year; d = d.plusDays(1)) {
                boolean got = x.day(0, how, year, d.getMonthValue(), d.getDayOfMonth());
                Due.is("\"" + text + "\" on " + d + ", a " + d.getDayOfWeek(), got, rule.holds(d));
            }
        }
    }

    private interface DayRule {
        boolean holds(LocalDate date);
    }

    private static void lastDays() {
        Due.sentence("2 TEXTS", "In DAY an ITEM may also be L: the last day of its MONTH");
        everyDay("* * L * *", 0, d -> d.getDayOfMonth() == d.lengthOfMonth());
        everyDay("* * 1,L * *", 0, d -> d.getDayOfMonth() == d.lengthOfMonth() || d.getDayOfMonth() == 1);
        Texts.faulty(in(2, "LL"), 5, 1);
        Texts.faulty(in(2, "L1"), 5, 1);
        Texts.faulty(in(2, "1L"), 5, 1);
        Texts.faulty(in(2, "L/2"), 5, 1);
        Texts.faulty(in(2, "l"), 4, 1);
        for (int f : new int[] {0, 1, 3, 4, 5}) {
            Texts.faulty(in(f, "L"), AHEAD[f].length(), 1);
        }
    }

    private static void daysBeforeTheLast() {
        Due.sentence("2 TEXTS", "L - n (n one or two figures, 1 .. 30): n days before it (none, if there are not so many)");
        for (int n : new int[] {1, 2, 9, 10, 27, 28, 29, 30}) {
            everyDay("* * L-" + n + " * *", 0, d -> d.getDayOfMonth() == d.lengthOfMonth() - n);
        }
        Texts.days("* * L-27 * *", 0, 2023, 2, "1");
        Texts.days("* * L-28 * *", 0, 2023, 2, "");
        Texts.days("* * L-28 * *", 0, 2024, 2, "1");
        Texts.days("* * L-29 * *", 0, 2024, 2, "");
        Texts.days("* * L-29 * *", 0, 2024, 4, "1");
        Texts.days("* * L-30 * *", 0, 2024, 4, "");
        Texts.days("* * L-30 * *", 0, 2024, 5, "1");
        Texts.right(in(2, "L-1"));
        Texts.right(in(2, "L-01"));
        Texts.right(in(2, "L-30"));
        Texts.faulty(in(2, "L-0"), 6, 2);
        Texts.faulty(in(2, "L-00"), 6, 2);
        Texts.faulty(in(2, "L-31"), 6, 2);
        Texts.faulty(in(2, "L-99"), 6, 2);
        Texts.faulty(in(2, "L-001"), 8, 1);
        Texts.faulty(in(2, "L-300"), 8, 1);
        Texts.faulty(in(2, "L-"), 6, 1);
        Texts.faulty(in(2, "L--1"), 6, 1);
        Texts.faulty(in(2, "L-W"), 6, 1);
    }

    private static boolean working(LocalDate d) {
        return d.getDayOfWeek() != DayOfWeek.SATURDAY && d.getDayOfWeek() != DayOfWeek.SUNDAY;
    }

    private static void lastWorkingDays() {
        Due.sentence("2 TEXTS", "L W: its last working day (Monday to Friday)");
        everyDay("* * LW * *", 0, d -> {
            LocalDate last = YearMonth.from(d).atEndOfMonth();
            while (!working(last)) {
                last = last.minusDays(1);
            }
            return d.equals(last);
        });
        Texts.faulty(in(2, "WL"), 4, 1);
        Texts.faulty(in(2, "LW1"), 6, 1);
        Texts.faulty(in(2, "LWL"), 6, 1);
        Texts.faulty(in(2, "LW-1"), 6, 1);
        Texts.faulty(in(2, "Lw"), 5, 1);
    }

    /** The working day of the same month with the least distance; no two have the same one. */
    private static LocalDate nearest(YearMonth month, int n) {
        if (n > month.lengthOfMonth()) {
            return null;
        }
        LocalDate best = null;
        for (int day = 1; day <= month.lengthOfMonth(); day++) {
            LocalDate d = month.atDay(day);
            if (working(d) && (best == null || Math.abs(day - n) < Math.abs(best.getDayOfMonth() - n))) {
                best = d;
            }
        }
        return best;
    }

    private static void nearestWorkingDays() {
        Due.sentence("2 TEXTS", "n W: the working day nearest to day n in that MONTH (Saturday: the day before, but for the first the "
            + "third; Sunday: the day behind, but for the last one two days before; none, if the MONTH has no day n)");
        for (int n : new int[] {1, 2, 3, 15, 27, 28, 29, 30, 31}) {
            everyDay("* * " + n + "W * *", 0, d -> d.equals(nearest(YearMonth.from(d), n)));
        }
        // June 2024 begins on a Saturday and ends on a Sunday, December 2024 begins on a Sunday.
        Texts.days("* * 1W * *", 0, 2024, 6, "3");
        Texts.days("* * 30W * *", 0, 2024, 6, "28");
        Texts.days("* * 31W * *", 0, 2024, 6, "");
        Texts.days("* * 1W * *", 0, 2024, 12, "2");
        Texts.days("* * 28W * *", 0, 2021, 2, "26");
        Texts.days("* * 29W * *", 0, 2021, 2, "");
        Texts.days("* * 31W * *", 0, 2024, 8, "30");
        Texts.right(in(2, "1W"));
        Texts.right(in(2, "31W"));
        Texts.right(in(2, "0031W"));
        Texts.faulty(in(2, "0W"), 4, 2);
        Texts.faulty(in(2, "32W"), 4, 2);
        Texts.faulty(in(2, "00031W"), 8, 1);
        Texts.faulty(in(2, "W"), 4, 1);
        Texts.faulty(in(2, "*W"), 5, 1);
        Texts.faulty(in(2, "1W-2W"), 6, 1);
        Texts.faulty(in(2, "1-2W"), 7, 1);
        Texts.faulty(in(2, "1W/2"), 6, 1);
        Texts.faulty(in(2, "1WL"), 6, 1);
        for (int f : new int[] {0, 1, 3, 4}) {
            Texts.faulty(in(f, "5W"), AHEAD[f].length() + 1, 1);
        }
        Texts.faulty(in(5, "2000W"), 14, 1);
    }

    private static void lastWeekdays() {
        Due.sentence("2 TEXTS", "In WEEKDAY, n being a VALUE: n L, the last one of that WEEKDAY in its MONTH");
        String[] values = {"0", "1", "2", "3", "4", "5", "6", "7", "sun", "wed", "sat", "0007"};
        int[] weekdays = {0, 1, 2, 3, 4, 5, 6, 0, 0, 3, 6, 0};
        for (int i = 0; i < values.length; i++) {
            int weekday = weekdays[i];
            everyDay("* * 1 * " + values[i] + "L", 1,
                d -> d.getDayOfWeek().getValue() % 7 == weekday && d.getDayOfMonth() + 7 > d.lengthOfMonth());
        }
        Texts.faulty(in(4, "8L"), 8, 2);
        Texts.faulty(in(4, "L"), 8, 1);
        Texts.faulty(in(4, "*L"), 9, 1);
        Texts.faulty(in(4, "1LL"), 10, 1);
        Texts.faulty(in(4, "1L-2"), 10, 1);
        Texts.faulty(in(4, "1-2L"), 11, 1);
        Texts.faulty(in(4, "1L/2"), 10, 1);
        Texts.faulty(in(4, "1l"), 9, 1);
        for (int f : new int[] {0, 1, 2, 3}) {
            Texts.faulty(in(f, "5L"), AHEAD[f].length() + 1, 1);
        }
    }

    private static void kthWeekdays() {
        Due.sentence("2 TEXTS", "n # k (k one figure, 1 .. 5), the k-th one");
        for (int k = 1; k <= 5; k++) {
            for (int weekday = 0; weekday <= 7; weekday += k == 5 ? 1 : 3) {
                int n = weekday;
                int kth = k;
                everyDay("* * 1 * " + n + "#" + k, 1,
                    d -> d.getDayOfWeek().getValue() % 7 == n % 7 && (d.getDayOfMonth() + 6) / 7 == kth);
            }
        }
        // February 2021 has four of each.
        for (int n = 0; n <= 6; n++) {
            Texts.days("* * 1 * " + n + "#5", 1, 2021, 2, "");
        }
        Texts.days("* * 1 * 1#1", 1, 2021, 2, "1");
        Texts.days("* * 1 * sun#4", 1, 2021, 2, "28");
        Texts.faulty(in(4, "1#0"), 10, 2);
        Texts.faulty(in(4, "1#6"), 10, 2);
        Texts.faulty(in(4, "1#9"), 10, 2);
        Texts.faulty(in(4, "1#01"), 11, 1);
        Texts.faulty(in(4, "1#55"), 11, 1);
        Texts.faulty(in(4, "1#"), 10, 1);
        Texts.faulty(in(4, "1#L"), 10, 1);
        Texts.faulty(in(4, "1#1L"), 11, 1);
        Texts.faulty(in(4, "1#1/2"), 11, 1);
        Texts.faulty(in(4, "8#1"), 8, 2);
        Texts.faulty(in(4, "#1"), 8, 1);
        Texts.faulty(in(4, "1-2#1"), 11, 1);
        for (int f : new int[] {0, 1, 2, 3}) {
            Texts.faulty(in(f, "5#1"), AHEAD[f].length() + 1, 1);
        }
    }

    private static void noBlanksWithin() {
        Due.sentence("2 TEXTS", "No blanks within a FIELD.");
        Texts.faulty("5 -7 * * * *", 2, 1);
        Texts.faulty("5- 7 * * * *", 2, 1);
        Texts.faulty("* /5 * * * *", 2, 1);
        Texts.faulty("*/ 5 * * * *", 2, 1);
        Texts.faulty("5 ,7 * * * *", 2, 1);
        Texts.faulty("5, 7 * * * *", 2, 1);
        Texts.faulty("* * L -3 * *", 6, 1);
        Texts.faulty("* * L- 3 * *", 6, 1);
        Texts.faulty("* * L W * *", 6, 1);
        Texts.faulty("* * 5 W * *", 6, 1);
        Texts.faulty("* * * j an *", 7, 1);
        Texts.faulty("* * * * 5 L", 10, 1);
        Texts.faulty("* * * * 5 #1", 10, 1);
        Texts.faulty("* * * * 5# 1", 10, 1);
        Texts.faulty("@ hourly", 1, 1);
    }

    private static void yearsIfThereAreNone() {
        Due.sentence("2 TEXTS", "(all years, if there is none)");
        years("1900-2199", span(1900, 2199));
        years("", span(1899, 2200));
        CalendarOrders x = new CalendarOrders();
        x.zone(1, -1);
        x.zone(2, 1);
        Due.text(x, "59 23 31 12 *");
        x.order(1, 0, 0, 0, 1);
        Due.text(x, "0 0 1 1 *");
        x.order(2, 0, 0, 0, 1);
        Due.text(x, "59 23 31 12 * 1900-2199");
        x.order(1, 0, 0, 0, 1);
        Due.text(x, "0 0 1 1 * 1900-2199");
        x.order(2, 0, 0, 0, 1);
        Due.is("in 1899", x.matches(0, 0), true);
        Due.is("in 2200", x.matches(1, 157785119), true);
        Due.is("not in 1899", x.matches(2, 0), false);
        Due.is("not in 2200", x.matches(3, 157785119), false);
    }

    private static int[] span(int from, int to) {
        int[] years = new int[to - from + 1];
        for (int i = 0; i < years.length; i++) {
            years[i] = from + i;
        }
        return years;
    }

    private static boolean isMonday(LocalDate d) {
        return d.getDayOfWeek() == DayOfWeek.MONDAY;
    }

    private static void rightDays() {
        Due.sentence("2 TEXTS", "if one of DAY, WEEKDAY begins with *, it must be in both; else in one of both at least");
        everyDay("* * * * *", 2, d -> true);
        everyDay("* * * * mon", 2, d -> isMonday(d));
        everyDay("* * 5 * *", 2, d -> d.getDayOfMonth() == 5);
        everyDay("* * 5 * mon", 2, d -> isMonday(d) || d.getDayOfMonth() == 5);
        everyDay("* * */2 * mon", 2, d -> isMonday(d) && d.getDayOfMonth() % 2 == 1);
        everyDay("* * */31 * mon", 2, d -> isMonday(d) && d.getDayOfMonth() == 1);
        everyDay("* * 5 * */7", 2, d -> d.getDayOfWeek() == DayOfWeek.SUNDAY && d.getDayOfMonth() == 5);
        everyDay("* * *,5 * mon", 2, d -> isMonday(d));
        everyDay("* * 5,* * mon", 2, d -> true);
        everyDay("* * 5 * mon,*", 2, d -> true);
        everyDay("* * 1-31 * mon", 2, d -> true);
        everyDay("* * */31,L * */7,monL", 2, d -> (d.getDayOfMonth() == 1 || d.getDayOfMonth() == d.lengthOfMonth())
            && (d.getDayOfWeek() == DayOfWeek.SUNDAY || isMonday(d) && d.getDayOfMonth() + 7 > d.lengthOfMonth()));
        everyDay("* * L * monL", 2, d -> d.getDayOfMonth() == d.lengthOfMonth()
            || isMonday(d) && d.getDayOfMonth() + 7 > d.lengthOfMonth());
        // 31 April and the fifth Monday of February 2021 are no days, but the other FIELD may hold one.
        Texts.days("* * 31 * mon#1", 2, 2021, 4, "5");
        Texts.days("* * 28 * mon#5", 2, 2021, 2, "28");
    }

    private static void theFirstFault() {
        Due.sentence("2 TEXTS", "FAULTS, the first from the left, of one place by code");
        Texts.faulty("60 24 0 0 8", 0, 2);
        Texts.faulty("5-3 x * * *", 2, 3);
        Texts.faulty("x 60 * * *", 0, 1);
        Texts.faulty("60x", 0, 2);
        Texts.faulty("5-3x", 2, 3);
        Texts.faulty("5-60x", 2, 2);
        Texts.faulty("60-5 * * * *", 0, 2);
        Texts.faulty("60-x", 0, 2);
        Texts.faulty("60/0 * * * *", 0, 2);
        Texts.faulty("5-3/0 * * * *", 2, 3);
        Texts.faulty("*/0x", 2, 2);
        Texts.faulty("*/0,60", 2, 2);
        Texts.faulty("1,2,60,5-3,x", 4, 2);
        Texts.faulty("1,2,5-3,60,x", 6, 3);
        Texts.faulty("1,2,x,60,5-3", 4, 1);
        // Out of its bounds and less than the first: one place, and the code is 2.
        Texts.faulty(in(2, "5-0"), 6, 2);
        Texts.faulty(in(3, "dec-0"), 10, 2);
        Texts.faulty(in(5, "1950-1899"), 15, 2);
        Texts.faulty(in(5, "1950-1900"), 15, 3);
        Texts.faulty(in(2, "L-31x"), 6, 2);
        Texts.faulty(in(4, "8#6"), 8, 2);
        Texts.faulty(in(4, "1#6x"), 10, 2);
        Texts.faulty(in(2, "32Wx"), 4, 2);
    }

    /** Behind this beginning just these bytes may stand; each other one is a fault there. */
    private static void mayStand(String begun, String bytes) {
        bytesThat(begun, b -> bytes.indexOf(b) >= 0);
    }

    private static void bytesThat(String begun, IntPredicate mayStand) {
        for (int b = 0; b < 256; b++) {
            CalendarOrders x = new CalendarOrders();
            int answer = Due.order(x, begun + (char) b);
            boolean refused = answer == -2 - begun.length() && x.fault() == 1;
            Due.is("byte " + b + " behind \"" + begun + "\" can't stand", refused, !mayStand.test(b));
        }
    }

    private static void bytesThatMayStand() {
        Due.sentence("2 TEXTS", "1 a byte that can't stand there");
        mayStand("", " *@" + FIGURES);
        mayStand("  ", " *@" + FIGURES);
        for (int f = 0; f < 6; f++) {
            String value = AHEAD[f] + (f == 5 ? "2000" : "5");
            String more = f == 5 ? "" : FIGURES;
            String first = "*" + FIGURES + (f == 2 ? "L" : f == 3 ? "jfmasond" : f == 4 ? "smtwf" : "");
            String second = FIGURES + (f == 3 ? "jfmasond" : f == 4 ? "smtwf" : "");
            mayStand(AHEAD[f] + (f == 0 ? "*," : ""), first + (f == 0 ? "" : " "));
            mayStand(AHEAD[f] + "*", " ,/");
            mayStand(AHEAD[f] + "*/", FIGURES);
            mayStand(AHEAD[f] + "*/5", " ," + FIGURES);
            mayStand(AHEAD[f] + "*/0005", " ,");
            mayStand(value, " ,-/" + more + (f == 2 ? "W" : f == 4 ? "L#" : ""));
            mayStand(value + ",", first);
            mayStand(value + "-", second);
            mayStand(value + "-" + (f == 5 ? "2001" : "6"), " ,/" + more);
            mayStand(value + "/", FIGURES);
            mayStand(value + "/9", " ," + FIGURES);
            mayStand(value + "/1000", " ,");
        }
        mayStand("0005", " ,-/");
        mayStand("5-0006", " ,/");
        mayStand(in(5, "2000 "), " ");
        mayStand(in(5, "* "), " ");
        bytesBehindLetters();
        bytesOfNames();
    }

    private static void bytesBehindLetters() {
        mayStand("* * L", " ,-W");
        mayStand("* * L,", "*L" + FIGURES);
        mayStand("* * L-", FIGURES);
        mayStand("* * L-2", " ," + FIGURES);
        mayStand("* * L-20", " ,");
        mayStand("* * LW", " ,");
        mayStand("* * 5W", " ,");
        mayStand("* * 0005", " ,-/W");
        mayStand("* * 05-06", " ,/" + FIGURES);
        mayStand("* * * * 5L", " ,");
        mayStand("* * * * 5#", FIGURES);
        mayStand("* * * * 5#1", " ,");
        mayStand("* * * * sun", " ,-/L#");
        mayStand("* * * * sunL", " ,");
        mayStand("* * * * sun-mon", " ,/");
        mayStand("* * * * 0005", " ,-/L#");
        mayStand("* * * jan", " ,-/");
        mayStand("* * * jan-feb", " ,/");
    }

    private static void bytesOfNames() {
        Due.sentence("2 TEXTS", "also a letter with which no name goes on");
        String[] months = {"j", "au", "ja", "n", "ju", "nl", "f", "e", "fe", "b", "m", "a", "ma", "ry", "a", "pu", "ap", "r",
            "au", "g", "s", "e", "se", "p", "o", "c", "oc", "t", "n", "o", "no", "v", "d", "e", "de", "c"};
        String[] weekdays = {"s", "ua", "su", "n", "sa", "t", "m", "o", "mo", "n", "t", "uh", "tu", "e", "th", "u", "w", "e",
            "we", "d", "f", "r", "fr", "i"};
        for (int i = 0; i < months.length; i += 2) {
            mayStand("* * * " + months[i], months[i + 1]);
            mayStand("* * * 1-" + months[i], months[i + 1]);
        }
        for (int i = 0; i < weekdays.length; i += 2) {
            mayStand("* * * * " + weekdays[i], weekdays[i + 1]);
        }
        mayStand("@", "hdwmy");
        for (String word : new String[] {"@hourly", "@daily", "@weekly", "@monthly", "@yearly"}) {
            for (int n = 2; n < word.length(); n++) {
                mayStand(word.substring(0, n), word.substring(n, n + 1));
            }
            mayStand(word, " ");
            mayStand(word + " ", " ");
        }
    }

    private static void theEnd() {
        Due.sentence("2 TEXTS", "or the end (the length of THE TAPE)");
        String text = "1-2,*/3 4,5/6 LW,L-7,8W jan-feb,mar/2 ";
        for (int n = 0; n <= text.length(); n++) {
            Texts.faulty(text.substring(0, n), n, 1);
        }
        String weekdays = "mon-tue/2,wedL,thu#5";
        String[] ends = {"m", "mo", "mon-", "mon-t", "mon-tu", "mon-tue/", "mon-tue/2,", "mon-tue/2,w", "mon-tue/2,wed#"};
        for (String end : ends) {
            Texts.faulty(text + end, text.length() + end.length(), 1);
        }
        Texts.right(text + weekdays);
        Texts.right(text + weekdays + " ");
        Texts.right(text + weekdays + " 2000");
        Texts.faulty(text + weekdays + " 2000,", text.length() + weekdays.length() + 6, 1);
        Texts.faulty(text + weekdays + " 2000-", text.length() + weekdays.length() + 6, 1);
        Texts.faulty("* * * *   ", 10, 1);
        // What a longer text left behind the end of a shorter one is not on the tape any more.
        String[] longer = {"* * * jan *", "* * * * mon", "@hourly", "15 * * * *", "* * * * *", "* * L-15 * *", "* * * * 5#1"};
        for (String first : longer) {
            for (int n = 0; n < first.length(); n++) {
                CalendarOrders x = new CalendarOrders();
                Due.order(x, first);
                String cut = first.substring(0, n);
                Due.is("order of \"" + cut + "\" behind \"" + first + "\"", Due.order(x, cut), endOrNumber(cut));
            }
        }
    }

    /** A text that is cut within its WEEKDAY of one figure is right; all others that are cut here end too early. */
    private static int endOrNumber(String cut) {
        return cut.equals("* * * * 5") ? 1 : -2 - cut.length();
    }

    private static void outOfBounds() {
        Due.sentence("2 TEXTS", "2 a VALUE, STEP, n, k out of its bounds (at its first byte, when it has ended)");
        // A byte that can't stand behind it ends it as well as one that can, or the end.
        for (String behind : new String[] {"", " ", ",", "-", "/", "x", "*", "\u00ff"}) {
            Texts.faulty("60" + behind, 0, 2);
            Texts.faulty("0060" + behind, 0, 2);
            Texts.faulty("*/1001" + behind, 2, 2);
            Texts.faulty("* * L-31" + behind, 6, 2);
            Texts.faulty("* * 32" + behind, 4, 2);
            Texts.faulty("* * * * 5#6" + behind, 10, 2);
        }
        // It has not ended before its last figure.
        Texts.faulty("00060", 4, 1);
        Texts.faulty("60000", 4, 1);
        Texts.faulty("*/10010", 6, 1);
        Texts.field("0059 * * * *", 0, Texts.bits(59));
        Texts.faulty(in(5, "219"), 10, 2);
        Texts.days(in(5, "2199"), 3, 2199, 1, Texts.ALL_OF_31);
        Due.sentence("2 TEXTS", "and the fifth figure");
        Texts.faulty(in(1, "00000"), 6, 1);
        Texts.faulty(in(1, "0-00000"), 8, 1);
        Texts.faulty(in(1, "*/00001"), 8, 1);
        Texts.faulty(in(1, "000000"), 6, 1);
    }

    private static void theSecondIsLess() {
        Due.sentence("2 TEXTS", "3 of VALUE - VALUE the second one is less (at its first byte; 7 is 7)");
        for (int f = 0; f < 6; f++) {
            int place = AHEAD[f].length();
            int greatest = GREATEST[f];
            String to = "" + greatest;
            Texts.faulty(in(f, greatest + "-" + (greatest - 1)), place + to.length() + 1, 3);
            Texts.faulty(in(f, greatest + "-" + LEAST[f]), place + to.length() + 1, 3);
            Texts.faulty(in(f, greatest + "-" + LEAST[f] + "/2"), place + to.length() + 1, 3);
            Texts.right(in(f, greatest + "-" + greatest));
            Texts.right(in(f, (greatest - 1) + "-" + greatest));
            Texts.right(in(f, LEAST[f] + "-" + LEAST[f]));
        }
        Texts.faulty(in(4, "7-sun"), 10, 3);
        Texts.faulty(in(4, "sat-sun"), 12, 3);
        Texts.faulty(in(4, "sat-0"), 12, 3);
        Texts.field(in(4, "sat-7"), 4, Texts.bits(0, 6));
        Texts.field(in(4, "sun-sun"), 4, Texts.bits(0));
        Texts.field(in(4, "7-7"), 4, Texts.bits(0));
        Texts.field(in(4, "0-7/7"), 4, Texts.bits(0));
        Texts.faulty(in(3, "feb-jan"), 10, 3);
        Texts.faulty(in(3, "2-jan"), 8, 3);
    }

    private static void feedTakesTheLowestBytes() {
        Due.sentence("Promise 6", "The lowest n bytes of a number, the highest of these first, come behind the tape: how many it has.");
        String text = "*/2,59 0-23/5 L,1W 1,jan-dec/2 7L,1#1,1-5 1900/3";
        for (int n = 1; n <= 8; n++) {
            CalendarOrders x = new CalendarOrders();
            int fed = 0;
            for (int from = 0; from < text.length(); from += n) {
                // What stands above the lowest n bytes must not count.
                long bytes = -1L;
                int to = Math.min(text.length(), from + n);
                for (int i = from; i < to; i++) {
                    bytes = bytes << 8 | text.charAt(i);
                }
                fed = to;
                Due.is("feed of " + (to - from) + " bytes", x.feed(bytes, to - from), fed);
            }
            Due.is("order of bytes fed by " + n, x.order(0, 0, 0, 0, 1), 0);
            Due.is("its minutes", x.field(0, 0), Texts.bits(59) | 0x0555555555555555L);
            Due.is("its weekdays", x.field(0, 4), Texts.bits(1, 2, 3, 4, 5));
        }
        CalendarOrders x = new CalendarOrders();
        Due.is("eight bytes of the least number", x.feed(Long.MIN_VALUE, 8), 8);
        Due.is("the first of them is 128", x.order(0, 0, 0, 0, 1), -2);
        x.feed(0x2aff, 1);
        Due.is("the lowest byte alone", x.order(0, 0, 0, 0, 1), -2);
        x.feed(0xff2a, 1);
        Due.is("the lowest byte, a star", x.order(0, 0, 0, 0, 1), -3);
    }

    private static void feedRefusesNumbers() {
        Due.sentence("Promise 6", "IllegalArgument: n is not 1 .. 8.");
        CalendarOrders x = new CalendarOrders();
        for (int n : new int[] {LEAST_INT, -1, 0, 9, GREATEST_INT}) {
            Due.refuses("feed(0, " + n + ")", ARGUMENT, () -> x.feed(0, n));
            Due.is("bytes on the tape", x.count(4), 0);
        }
        Due.is("feed(0, 1)", x.feed(0, 1), 1);
        Due.is("feed(0, 8)", x.feed(0, 8), 9);
    }

    private static void feedRefusesMoreThan160() {
        Due.sentence("Promise 6", "IllegalState: there would be more than 160.");
        for (int last = 1; last <= 8; last++) {
            CalendarOrders x = new CalendarOrders();
            for (int n = 0; n < 19; n++) {
                x.feed(0x2020202020202020L, 8);
            }
            for (int n = 152; n < 160 - last; n++) {
                x.feed(' ', 1);
            }
            for (int more = last + 1; more <= 8; more++) {
                int n = more;
                Due.refuses("feed of " + n + " with " + last + " free", STATE, () -> x.feed(0, n));
            }
            Due.is("bytes on the tape", x.count(4), 160 - last);
            Due.is("feed of the last " + last, x.feed(0x2020202020202020L, last), 160);
            for (int more = 1; more <= 8; more++) {
                int n = more;
                Due.refuses("feed of " + n + " to a full one", STATE, () -> x.feed(0, n));
            }
            Due.refuses("feed of 9 to a full one", ARGUMENT, () -> x.feed(0, 9));
            Due.refuses("feed of 0 to a full one", ARGUMENT, () -> x.feed(0, 0));
            Due.is("nothing but blanks is on it", x.order(0, 0, 0, 0, 1), -162);
            Due.is("it is empty then", x.feed(0, 8), 8);
        }
    }

    private static void orderEmptiesTheTape() {
        Due.sentence("Promise 7", "The tape, which is empty then, is the text of a new ORDER with WAY, GRACE, OVERLAP, LONG: its number");
        CalendarOrders x = new CalendarOrders();
        Due.text(x, "@daily");
        Due.is("order()", x.order(3, 2, 100000, 2, 10000), 0);
        Due.is("the tape is empty", x.count(4), 0);
        int[] told = {3, 2, 100000, 2, 10000};
        for (int what = 0; what < 5; what++) {
            Due.is("told(0, " + what + ")", x.told(0, what), told[what]);
        }
        Due.text(x, "5-3");
        Due.is("a fault", x.order(0, 0, 0, 0, 1), -4);
        Due.is("the tape is empty behind a fault", x.count(4), 0);
        Due.is("there is no order more", x.count(2), 1);
        Due.text(x, times(160, " "));
        x.order(0, 0, 0, 0, 1);
        Due.is("a full tape is empty then", x.count(4), 0);
        Due.text(x, "@hourly");
        Due.is("the least of all", x.order(0, 0, 0, 0, 1), 1);
        for (int what = 0; what < 4; what++) {
            Due.is("told(1, " + what + ")", x.told(1, what), 0);
        }
        Due.is("told(1, 4)", x.told(1, 4), 1);
    }

    private static void orderTellsThePlace() {
        Due.sentence("Promise 7", "-2 less the place of its FAULT: there is none");
        for (int n = 0; n < 160; n++) {
            CalendarOrders x = new CalendarOrders();
            Due.text(x, times(n, " ") + "x");
            Due.is("a fault at " + n, x.order(0, 0, 0, 0, 1), -2 - n);
            Due.is("no order", x.count(2), 0);
        }
        Texts.faulty("", 0, 1);
        Texts.faulty(times(160, " "), 160, 1);
    }

    private static void orderRefusesArguments() {
        Due.sentence("3 ORDERS", "a WAY (0 SKIP, 1 ONCE, 2 ALL), a GRACE (0 .. 100000 minutes), an OVERLAP (0 TOGETHER, 1 DROP, 2 WAIT), "
            + "and LONG (1 .. 10000 minutes)");
        CalendarOrders x = new CalendarOrders();
        Due.text(x, "5-3");
        x.order(0, 0, 0, 0, 1);
        Due.text(x, "@daily");
        for (int bad : new int[] {LEAST_INT, -1, 3, GREATEST_INT}) {
            Due.refuses("way " + bad, ARGUMENT, () -> x.order(0, bad, 0, 0, 1));
            Due.refuses("overlap " + bad, ARGUMENT, () -> x.order(0, 0, 0, bad, 1));
        }
        for (int bad : new int[] {LEAST_INT, -1, 100001, GREATEST_INT}) {
            Due.refuses("grace " + bad, ARGUMENT, () -> x.order(0, 0, bad, 0, 1));
        }
        for (int bad : new int[] {LEAST_INT, -1, 0, 10001, GREATEST_INT}) {
            Due.refuses("long " + bad, ARGUMENT, () -> x.order(0, 0, 0, 0, bad));
        }
        for (int bad : new int[] {LEAST_INT, -1, 4, GREATEST_INT}) {
            Due.refuses("zone " + bad, INDEX, () -> x.order(bad, 0, 0, 0, 1));
            Due.refuses("zone " + bad + " and all else", INDEX, () -> x.order(bad, 3, -1, 3, 0));
        }
        Due.is("the tape stays", x.count(4), 6);
        Due.is("the fault stays", x.fault(), 3);
        Due.is("it is still the text", x.order(0, 0, 0, 0, 1), 0);
        for (int way = 0; way <= 2; way++) {
            for (int overlap = 0; overlap <= 2; overlap++) {
                Due.text(x, "@daily");
                int number = x.order(0, way, 100000, overlap, 10000);
                Due.is("its way", x.told(number, 1), way);
                Due.is("its overlap", x.told(number, 3), overlap);
            }
        }
    }

    private static void orderRefusesThe13th() {
        Due.sentence("Promise 7", "IllegalArgument; IllegalState: there are 12 (the tape stays in both).");
        CalendarOrders x = new CalendarOrders();
        for (int n = 0; n < 12; n++) {
            Due.is("order " + n, Due.order(x, "@hourly"), n);
        }
        Due.text(x, "@yearly x");
        Due.refuses("the 13th, with a fault", STATE, () -> x.order(0, 0, 0, 0, 1));
        Due.is("the tape stays", x.count(4), 9);
        Due.is("no fault was looked for", x.fault(), 0);
        Due.refuses("no way, and full", ARGUMENT, () -> x.order(0, 3, 0, 0, 1));
        Due.refuses("no grace, and full", ARGUMENT, () -> x.order(0, 0, -1, 0, 1));
        Due.refuses("no overlap, and full", ARGUMENT, () -> x.order(0, 0, 0, 3, 1));
        Due.refuses("no length, and full", ARGUMENT, () -> x.order(0, 0, 0, 0, 0));
        Due.refuses("no zone, and full", INDEX, () -> x.order(4, 0, 0, 0, 1));
        Due.is("the tape stays in all", x.count(4), 9);
        Due.is("12 are left", x.count(2), 12);
        x.cancel(11);
        Due.is("the tape's text now", x.order(0, 0, 0, 0, 1), -2 - 8);
        Due.is("its fault", x.fault(), 1);
        Due.is("the 12th again", Due.order(x, "@hourly"), 11);
        Due.refuses("the 13th with an empty tape", STATE, () -> x.order(0, 0, 0, 0, 1));
    }

    private static void faultOfTheLatest() {
        Due.sentence("Promise 8", "The code of the FAULT of the latest order() that had a text; 0 for none, and before.");
        CalendarOrders x = new CalendarOrders();
        Due.is("before", x.fault(), 0);
        Due.text(x, "60");
        Due.is("only fed", x.fault(), 0);
        Due.refuses("refused", ARGUMENT, () -> x.order(0, 0, 0, 0, 0));
        Due.is("behind a refused one", x.fault(), 0);
        x.order(0, 0, 0, 0, 1);
        Due.is("out of bounds", x.fault(), 2);
        Due.is("asked again", x.fault(), 2);
        x.order(0, 0, 0, 0, 1);
        Due.is("of the empty text", x.fault(), 1);
        Due.order(x, "5-3");
        Due.is("less", x.fault(), 3);
        Due.refuses("no zone", INDEX, () -> x.order(4, 0, 0, 0, 1));
        Due.is("behind a refused one again", x.fault(), 3);
        Due.order(x, "@daily");
        Due.is("none", x.fault(), 0);
        Due.order(x, "x");
        x.pass(5);
        x.cancel(0);
        x.put(7);
        x.feed(0, 1);
        Due.is("other calls leave it", x.fault(), 1);
    }

    private static void fieldsAsBits() {
        Due.sentence("Promise 11", "Which numbers are in a FIELD (0 MINUTE .. 4 WEEKDAY), as bits; without what L, W, # tell.");
        String all = "* * * * *";
        Texts.field(all, 0, (1L << 60) - 1);
        Texts.field(all, 1, (1L << 24) - 1);
        Texts.field(all, 2, (1L << 32) - 2);
        Texts.field(all, 3, (1L << 13) - 2);
        Texts.field(all, 4, (1L << 7) - 1);
        for (int f = 0; f < 4; f++) {
            Texts.field(in(f, "" + LEAST[f]), f, 1L << LEAST[f]);
            Texts.field(in(f, "" + GREATEST[f]), f, 1L << GREATEST[f]);
        }
        Texts.field(in(4, "6"), 4, Texts.bits(6));
        Texts.field(in(4, "7"), 4, Texts.bits(0));
        Texts.field(in(2, "L,LW,L-1,1W,31W"), 2, 0L);
        Texts.field(in(4, "0L,7L,1#1,6#5"), 4, 0L);
        Texts.field(in(2, "L,31,1W"), 2, Texts.bits(31));
        Texts.field(in(4, "0L,6,1#1"), 4, Texts.bits(6));
    }

    private static void fieldRefuses() {
        Due.sentence("Promise 11", "IllegalArgument: another FIELD.");
        CalendarOrders x = new CalendarOrders();
        Due.order(x, "0 1 2 3 4 2000");
        for (int bad : new int[] {LEAST_INT, -1, 5, 6, GREATEST_INT}) {
            Due.refuses("field(0, " + bad + ")", ARGUMENT, () -> x.field(0, bad));
            Due.refuses("field(1, " + bad + ")", INDEX, () -> x.field(1, bad));
        }
        for (int f = 0; f < 5; f++) {
            Due.is("field(0, " + f + ")", x.field(0, f), 1L << f);
        }
        for (int bad : new int[] {LEAST_INT, -1, 1, 11, 12, GREATEST_INT}) {
            Due.refuses("field(" + bad + ", 0)", INDEX, () -> x.field(bad, 0));
        }
    }
}
