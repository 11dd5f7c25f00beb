/**
 * Orders that come again by texts of five or six fields, in zones whose clocks change,
 * and a desk that begins, drops and keeps waiting their runs.
 *
 * Searches go month by month, not minute by minute: a text tells for each month which of
 * its days are right, as bits, and for each day which of its times are.
 */
public final class CalendarOrders {
    public static final int NONE = -1;

    private static final int LAST_MINUTE = 157785119;
    private static final int DAY_MINUTES = 1440;
    private static final int FIRST_YEAR = 1900;
    private static final int LAST_YEAR = 2199;
    private static final int MOST_MONTHS = 4000;
    private static final int MOST_DAYS = 20000;
    // No civil day or minute has this number; NONE would be one, as civil time begins in 1899.
    private static final int NOWHERE = -1000000000;

    private static final int ZONES = 4;
    private static final int MOST_OFFSET = 1439;
    private static final int MOST_CHANGES = 20;

    private static final int MOST_ORDERS = 12;
    private static final int MOST_RUNS = 8;
    // Each run that is under way, and each one that waits, ends at most once in one look.
    private static final int MOST_ENDS = MOST_ORDERS * (MOST_RUNS + 1);
    private static final int MOST_GRACE = 100000;
    private static final int MOST_LONG = 10000;
    private static final int MOST_BYTES = 160;
    private static final int MOST_LINES = 300;
    private static final int MOST_PASS_AWAKE = 3000;
    private static final int MOST_PASS_ASLEEP = 3000000;

    private static final int ONCE = 1;
    private static final int ALL = 2;
    private static final int TOGETHER = 0;
    private static final int WAIT = 2;

    private static final int BEGUN = 0;
    private static final int ENDED = 1;
    private static final int DROPPED = 2;
    private static final int WAITS = 3;

    private static final int MINUTE = 0;
    private static final int HOUR = 1;
    private static final int DAY = 2;
    private static final int MONTH = 3;
    private static final int WEEKDAY = 4;
    private static final int YEAR = 5;
    private static final int FIELDS = 6;
    private static final int[] LEAST = {0, 0, 1, 1, 0, FIRST_YEAR};
    private static final int[] GREATEST = {59, 23, 31, 12, 7, LAST_YEAR};
    private static final String MONTH_NAMES = "janfebmaraprmayjunjulaugsepoctnovdec";
    private static final String WEEKDAY_NAMES = "sunmontuewedthufrisat";
    private static final int NAME_LENGTH = 3;

    private static final int DAY_ALONE = 0;
    private static final int WEEKDAY_ALONE = 1;
    private static final int WHOLE_DATE = 3;

    private final Civil civil = new Civil();
    private final Zone[] zones = new Zone[ZONES];
    private final Order[] orders = new Order[MOST_ORDERS];
    private final Tape tape = new Tape();
    private final Log lines = new Log();
    private int faultCode;
    private int clock;
    private int asleepSince;
    private boolean awake = true;

    public CalendarOrders() {
        for (int z = 0; z < ZONES; z++) {
            zones[z] = new Zone();
        }
        for (int number = 0; number < MOST_ORDERS; number++) {
            orders[number] = new Order(number);
        }
    }

    // ---- time

    public void zone(int z, int offset) throws IndexOutOfBoundsException, IllegalArgumentException {
        Zone zone = zoneOf(z);
        checkOffset(offset);
        zone.begin(offset);
    }

    public int change(int z, int minute, int offset)
            throws IndexOutOfBoundsException, IllegalArgumentException, IllegalStateException {
        Zone zone = zoneOf(z);
        checkMinute(minute);
        checkOffset(offset);
        if (!zone.isBehindLatest(minute)) {
            throw new IllegalArgumentException("not behind the latest change");
        }
        if (zone.changes >= MOST_CHANGES) {
            throw new IllegalStateException("no more changes");
        }
        zone.add(minute, offset);
        return zone.changes;
    }

    public int civil(int z, int minute, int what) throws IndexOutOfBoundsException, IllegalArgumentException {
        Zone zone = zoneOf(z);
        checkMinute(minute);
        checkWhat(what, 7);
        int stands = minute + zone.offsetAt(minute);
        int day = Math.floorDiv(stands, DAY_MINUTES);
        int time = stands - day * DAY_MINUTES;
        civil.goToDay(day);
        switch (what) {
            case 0: return civil.year;
            case 1: return civil.month;
            case 2: return civil.day;
            case 3: return (civil.firstWeekday + civil.day - 1) % 7;
            case 4: return time / 60;
            case 5: return time % 60;
            case 6: return day - yearStart(civil.year) + 1;
            default: return civil.monthDays;
        }
    }

    public int minute(int z, int year, int month, int day, int hour, int minute)
            throws IndexOutOfBoundsException, IllegalArgumentException {
        Zone zone = zoneOf(z);
        checkDate(year, month, day);
        if (hour < 0 || hour > 23 || minute < 0 || minute > 59) {
            throw new IllegalArgumentException("no such time of a day");
        }
        int days = monthStart(year, month) + day - 1;
        return zone.leastMinuteOf(days * DAY_MINUTES + hour * 60 + minute);
    }

    // ---- orders

    public int feed(long bytes, int n) throws IllegalArgumentException, IllegalStateException {
        if (n < 1 || n > 8) {
            throw new IllegalArgumentException("not 1 to 8 bytes");
        }
        if (tape.length + n > MOST_BYTES) {
            throw new IllegalStateException("the tape is full");
        }
        for (int i = n - 1; i >= 0; i--) {
            tape.add((int) (bytes >>> (8 * i)) & 255);
        }
        return tape.length;
    }

    public int order(int z, int way, int grace, int overlap, int takes)
            throws IndexOutOfBoundsException, IllegalArgumentException, IllegalStateException {
        Zone zone = zoneOf(z);
        if (way < 0 || way > ALL || grace < 0 || grace > MOST_GRACE
                || overlap < 0 || overlap > WAIT || takes < 1 || takes > MOST_LONG) {
            throw new IllegalArgumentException("no such way, grace, overlap or length");
        }
        int number = leastFreeNumber();
        if (number < 0 || number >= MOST_ORDERS) {
            throw new IllegalStateException("no more orders");
        }
        Order order = orders[number];
        faultCode = tape.read(order.rule);
        tape.length = 0;
        if (faultCode != 0) {
            return -2 - tape.place;
        }
        order.begin(z, zone);
        order.settle(way, grace, overlap, takes);
        return number;
    }

    public int fault() {
        return faultCode;
    }

    public int cancel(int order) throws IndexOutOfBoundsException {
        Order gone = orderOf(order);
        gone.used = false;
        gone.clearRuns();
        return ordersInUse();
    }

    public int told(int order, int what) throws IndexOutOfBoundsException, IllegalArgumentException {
        Order asked = orderOf(order);
        checkWhat(what, 10);
        switch (what) {
            case 0: return asked.zoneNumber;
            case 1: return asked.way;
            case 2: return asked.grace;
            case 3: return asked.overlap;
            case 4: return asked.takes;
            case 5: return asked.running;
            case 6: return asked.waits ? 1 : 0;
            case 7: return asked.begun;
            case 8: return asked.dropped;
            case 9: return asked.rule.dayStar ? 1 : 0;
            default: return asked.rule.weekdayStar ? 1 : 0;
        }
    }

    public long field(int order, int field) throws IndexOutOfBoundsException, IllegalArgumentException {
        Order asked = orderOf(order);
        if (field < MINUTE || field > WEEKDAY) {
            throw new IllegalArgumentException("no such field");
        }
        return asked.rule.numbers[field];
    }

    public boolean day(int order, int how, int year, int month, int day)
            throws IndexOutOfBoundsException, IllegalArgumentException {
        Order asked = orderOf(order);
        checkWhat(how, WHOLE_DATE);
        checkDate(year, month, day);
        asked.rule.civil.goToMonth(year, month);
        return holds(asked.rule.rightDays(how), day);
    }

    public boolean matches(int order, int minute) throws IndexOutOfBoundsException, IllegalArgumentException {
        Order asked = orderOf(order);
        checkMinute(minute);
        return asked.leastMatch(minute, minute) == minute;
    }

    public int next(int order, int minute, int days) throws IndexOutOfBoundsException, IllegalArgumentException {
        Order asked = orderOf(order);
        checkMinute(minute);
        checkDays(days);
        return asked.leastMatch(minute + 1, Math.min(LAST_MINUTE, minute + days * DAY_MINUTES));
    }

    public int before(int order, int minute, int days) throws IndexOutOfBoundsException, IllegalArgumentException {
        Order asked = orderOf(order);
        checkMinute(minute);
        checkDays(days);
        return asked.greatestMatch(Math.max(0, minute - days * DAY_MINUTES), minute - 1);
    }

    public int between(int order, int minute, int last) throws IndexOutOfBoundsException, IllegalArgumentException {
        Order asked = orderOf(order);
        checkMinute(minute);
        checkMinute(last);
        if (last < minute || last - minute > MOST_DAYS * DAY_MINUTES) {
            throw new IllegalArgumentException("the second minute is less, or too far behind");
        }
        return asked.matchesIn(minute + 1, last);
    }

    // ---- the desk

    public void put(int minute) throws IllegalArgumentException, IllegalStateException {
        checkMinute(minute);
        if (!awake) {
            throw new IllegalStateException("asleep");
        }
        for (int number = 0; number < MOST_ORDERS; number++) {
            orders[number].clearRuns();
        }
        clock = minute;
    }

    public int pass(int n) throws IllegalArgumentException {
        int most = awake ? MOST_PASS_AWAKE : MOST_PASS_ASLEEP;
        if (n < 0 || n > most || n > LAST_MINUTE - clock) {
            throw new IllegalArgumentException("not so many minutes");
        }
        int last = clock + n;
        if (awake) {
            workUntil(last);
        }
        clock = last;
        return clock;
    }

    public void sleep() throws IllegalStateException {
        if (!awake) {
            throw new IllegalStateException("asleep");
        }
        awake = false;
        asleepSince = clock;
    }

    public int wake() throws IllegalStateException {
        if (awake) {
            throw new IllegalStateException("awake");
        }
        awake = true;
        int linesBefore = lines.count;
        endRuns();
        for (int number = 0; number < MOST_ORDERS; number++) {
            Order order = orders[number];
            if (order.used && order.way == ONCE) {
                makeUpLatest(order);
            } else if (order.used && order.way == ALL) {
                makeUpAll(order);
            }
        }
        return lines.count - linesBefore;
    }

    public int log(int line, int what) throws IndexOutOfBoundsException, IllegalArgumentException {
        if (line < 0 || line >= lines.kept()) {
            throw new IndexOutOfBoundsException("no such line");
        }
        checkWhat(what, 3);
        switch (what) {
            case 0: return lines.kinds[line];
            case 1: return lines.numbers[line];
            case 2: return lines.minutes[line];
            default: return lines.matched[line];
        }
    }

    public int tear() {
        int torn = lines.count;
        lines.count = 0;
        return torn;
    }

    public int count(int what) throws IllegalArgumentException {
        checkWhat(what, 5);
        switch (what) {
            case 0: return clock;
            case 1: return awake ? 1 : 0;
            case 2: return ordersInUse();
            case 3: return lines.count;
            case 4: return tape.length;
            default: return runsUnderWay();
        }
    }

    // ---- what the calls have in common

    private Zone zoneOf(int z) {
        if (z < 0 || z >= ZONES) {
            throw new IndexOutOfBoundsException("no such zone");
        }
        return zones[z];
    }

    private Order orderOf(int number) {
        if (number < 0 || number >= MOST_ORDERS || !orders[number].used) {
            throw new IndexOutOfBoundsException("no such order");
        }
        return orders[number];
    }

    private static void checkOffset(int offset) {
        if (offset < -MOST_OFFSET || offset > MOST_OFFSET) {
            throw new IllegalArgumentException("no such offset");
        }
    }

    private static void checkMinute(int minute) {
        if (minute < 0 || minute > LAST_MINUTE) {
            throw new IllegalArgumentException("no such minute");
        }
    }

    private static void checkDays(int days) {
        if (days < 0 || days > MOST_DAYS) {
            throw new IllegalArgumentException("not so many days");
        }
    }

    private static void checkWhat(int what, int greatest) {
        if (what < 0 || what > greatest) {
            throw new IllegalArgumentException("nothing is told by that number");
        }
    }

    private static void checkDate(int year, int month, int day) {
        // Civil time reaches a year beyond the minutes of the world on both sides.
        if (year < FIRST_YEAR - 1 || year > LAST_YEAR + 1 || month < 1 || month > 12
                || day < 1 || day > daysOfMonth(year, month)) {
            throw new IllegalArgumentException("no such date");
        }
    }

    private int leastFreeNumber() {
        for (int number = 0; number < MOST_ORDERS; number++) {
            if (!orders[number].used) {
                return number;
            }
        }
        return NONE;
    }

    private int ordersInUse() {
        int n = 0;
        for (int number = 0; number < MOST_ORDERS; number++) {
            if (orders[number].used) {
                n++;
            }
        }
        return n;
    }

    private int runsUnderWay() {
        int n = 0;
        for (int number = 0; number < MOST_ORDERS; number++) {
            n += orders[number].running;
        }
        return n;
    }

    // ---- how the desk works

    /**
     * Goes from one minute at which orders are due to the next. Runs that end in between are ended
     * only then, but each for its own minute and by these minutes, which comes to the same.
     */
    private void workUntil(int last) {
        for (int number = 0; number < MOST_ORDERS; number++) {
            Order order = orders[number];
            order.nextDue = order.used ? order.leastMatch(clock + 1, last) : NONE;
        }
        for (int i = 0; i < MOST_PASS_AWAKE && clock < last; i++) {
            clock = leastDue(last);
            endRuns();
            for (int number = 0; number < MOST_ORDERS; number++) {
                Order order = orders[number];
                if (order.nextDue == clock) {
                    becomeDue(order, clock);
                    order.nextDue = order.leastMatch(clock + 1, last);
                }
            }
        }
    }

    private int leastDue(int last) {
        int least = last;
        for (int number = 0; number < MOST_ORDERS; number++) {
            Order order = orders[number];
            if (order.nextDue != NONE) {
                least = Math.min(least, order.nextDue);
            }
        }
        return least;
    }

    /** Ends all runs that should have ended by now: by the minutes of their ends, then by numbers. */
    private void endRuns() {
        for (int i = 0; i < MOST_ENDS; i++) {
            Order order = firstToEnd();
            if (order == null) {
                return;
            }
            int minute = order.firstEnd();
            lines.add(ENDED, order.number, minute, order.matched[0]);
            order.removeFirstRun();
            if (order.waits && order.running == 0) {
                order.waits = false;
                begin(order, minute, order.waiting);
            }
        }
    }

    private Order firstToEnd() {
        Order first = null;
        int least = clock + 1;
        for (int number = 0; number < MOST_ORDERS; number++) {
            Order order = orders[number];
            if (order.running > 0 && order.firstEnd() < least) {
                first = order;
                least = order.firstEnd();
            }
        }
        return first;
    }

    private void becomeDue(Order order, int matched) {
        if (order.mayBegin()) {
            begin(order, clock, matched);
        } else if (order.mayWait()) {
            order.waits = true;
            order.waiting = matched;
            lines.add(WAITS, order.number, clock, matched);
        } else {
            order.dropped++;
            lines.add(DROPPED, order.number, clock, matched);
        }
    }

    private void begin(Order order, int minute, int matched) {
        order.addRun(minute, matched);
        lines.add(BEGUN, order.number, minute, matched);
    }

    private int firstMissed(Order order) {
        return Math.max(asleepSince + 1, clock - order.grace);
    }

    private void makeUpLatest(Order order) {
        int latest = order.greatestMatch(firstMissed(order), clock);
        if (latest != NONE) {
            becomeDue(order, latest);
        }
    }

    private void makeUpAll(Order order) {
        int from = firstMissed(order);
        for (int i = 0; i <= MOST_GRACE && from <= clock; i++) {
            if (lines.count >= MOST_LINES && !order.mayBegin() && !order.mayWait()) {
                // All the rest is dropped, and no line of it is kept: counting is enough.
                int rest = order.matchesIn(from, clock);
                order.dropped += rest;
                lines.count += rest;
                return;
            }
            int matched = order.leastMatch(from, clock);
            if (matched == NONE) {
                return;
            }
            becomeDue(order, matched);
            from = matched + 1;
        }
    }

    // ---- the calendar; days are counted from the first of January 1900 on, which is day 0

    private static int daysOfMonth(int year, int month) {
        if (month == 2) {
            boolean leap = year % 4 == 0 && (year % 100 != 0 || year % 400 == 0);
            return leap ? 29 : 28;
        }
        return month == 4 || month == 6 || month == 9 || month == 11 ? 30 : 31;
    }

    private static int yearStart(int year) {
        int past = year - 1;
        // 460 leap days lie before 1900.
        return 365 * (year - FIRST_YEAR) + past / 4 - past / 100 + past / 400 - 460;
    }

    private static int monthStart(int year, int month) {
        int start = yearStart(year);
        for (int m = 1; m < month && m < 12; m++) {
            start += daysOfMonth(year, m);
        }
        return start;
    }

    // ---- sets of small numbers, as bits

    private static boolean holds(long bits, int number) {
        return number >= 0 && number < 64 && (bits >>> number & 1L) != 0;
    }

    private static int lowest(long bits) {
        return Long.bitCount((bits & -bits) - 1);
    }

    private static int highest(long bits) {
        long filled = bits;
        for (int shift = 1; shift < 64; shift *= 2) {
            filled |= filled >>> shift;
        }
        return Long.bitCount(filled) - 1;
    }

    private static long below(int number) {
        return (1L << number) - 1;
    }

    /** A day of the calendar and its month, kept and moved, so that no search makes objects. */
    private static final class Civil {
        int year;
        int month;
        int day;
        int monthStart;
        int monthDays;
        int firstWeekday;

        void goToDay(int number) {
            // No year is longer than 366 days, and within 300 years that is off by one year at most.
            year = FIRST_YEAR + Math.floorDiv(number, 366);
            if (number >= yearStart(year + 1)) {
                year++;
            }
            month = 1;
            monthStart = yearStart(year);
            for (int m = 1; m < 12 && number >= monthStart + daysOfMonth(year, m); m++) {
                monthStart += daysOfMonth(year, m);
                month = m + 1;
            }
            day = number - monthStart + 1;
            lookAtMonth();
        }

        void goToMonth(int newYear, int newMonth) {
            year = newYear;
            month = newMonth;
            day = 1;
            monthStart = CalendarOrders.monthStart(year, month);
            lookAtMonth();
        }

        void goToNextMonth() {
            monthStart += monthDays;
            year = month == 12 ? year + 1 : year;
            month = month == 12 ? 1 : month + 1;
            day = 1;
            lookAtMonth();
        }

        void goToMonthBefore() {
            year = month == 1 ? year - 1 : year;
            month = month == 1 ? 12 : month - 1;
            day = 1;
            monthStart -= daysOfMonth(year, month);
            lookAtMonth();
        }

        void lookAtMonth() {
            monthDays = daysOfMonth(year, month);
            // Day 0 is a Monday.
            firstWeekday = Math.floorMod(monthStart + 1, 7);
        }

        /** Which days of the month lie in a stretch of days. */
        long daysWithin(int first, int last) {
            int from = Math.max(first - monthStart + 1, 1);
            int to = Math.min(last - monthStart + 1, monthDays);
            return from > to ? 0 : below(to + 1) & ~below(from);
        }
    }

    /** Stretches of the world's minutes with one offset each; the first one begins at 0. */
    private static final class Zone {
        final int[] starts = new int[MOST_CHANGES + 1];
        final int[] offsets = new int[MOST_CHANGES + 1];
        int changes;

        void begin(int offset) {
            offsets[0] = offset;
            changes = 0;
        }

        boolean isBehindLatest(int minute) {
            return changes == 0 || minute > starts[changes];
        }

        void add(int minute, int offset) {
            if (changes < MOST_CHANGES) {
                changes++;
                starts[changes] = minute;
                offsets[changes] = offset;
            }
        }

        int lastMinuteOf(int stretch) {
            return stretch < changes ? starts[stretch + 1] - 1 : LAST_MINUTE;
        }

        int offsetAt(int minute) {
            for (int stretch = changes; stretch > 0; stretch--) {
                if (minute >= starts[stretch]) {
                    return offsets[stretch];
                }
            }
            return offsets[0];
        }

        int leastMinuteOf(int stands) {
            for (int stretch = 0; stretch <= changes; stretch++) {
                int minute = stands - offsets[stretch];
                if (minute >= starts[stretch] && minute <= lastMinuteOf(stretch)) {
                    return minute;
                }
            }
            return NONE;
        }
    }

    /** What a text means. Civil minutes are counted from the first of January 1900, 0 o'clock, on. */
    private static final class Rule {
        final Civil civil = new Civil();
        final long[] numbers = new long[YEAR];
        final long[] years = new long[5];
        boolean yearTold;
        boolean dayStar;
        boolean weekdayStar;
        // Bit n: the day n days before the last one.
        long daysBeforeLast;
        boolean lastWorkday;
        long nearWorkdays;
        long lastWeekdays;
        // Bit 7 k + n: the k-th WEEKDAY n.
        long kthWeekdays;
        // The desk asks for the same day minute by minute.
        int knownDay;
        boolean knownRight;

        void clear() {
            for (int f = MINUTE; f < YEAR; f++) {
                numbers[f] = 0;
            }
            for (int i = 0; i < 5; i++) {
                years[i] = 0;
            }
            yearTold = false;
            dayStar = false;
            weekdayStar = false;
            daysBeforeLast = 0;
            lastWorkday = false;
            nearWorkdays = 0;
            lastWeekdays = 0;
            kthWeekdays = 0;
            knownDay = NOWHERE;
            knownRight = false;
        }

        void beginField(int field, boolean star) {
            if (field == DAY) {
                dayStar = star;
            } else if (field == WEEKDAY) {
                weekdayStar = star;
            } else if (field == YEAR) {
                yearTold = true;
            }
        }

        void add(int field, int from, int to, int step) {
            if (step < 1 || field < MINUTE || field > YEAR) {
                return;
            }
            for (int n = from; n <= to; n += step) {
                int year = n - FIRST_YEAR;
                if (field == WEEKDAY) {
                    numbers[field] |= 1L << n % 7;
                } else if (field != YEAR) {
                    numbers[field] |= 1L << n;
                } else if (year >= 0 && year <= LAST_YEAR - FIRST_YEAR) {
                    years[year / 64] |= 1L << year % 64;
                }
            }
        }

        boolean holdsYear(int year) {
            if (!yearTold) {
                return true;
            }
            int n = year - FIRST_YEAR;
            return n >= 0 && n <= LAST_YEAR - FIRST_YEAR && holds(years[n / 64], n % 64);
        }

        /** Which days of the month at which the calendar stands are right. */
        long rightDays(int how) {
            if (how == WHOLE_DATE && !(holds(numbers[MONTH], civil.month) && holdsYear(civil.year))) {
                return 0;
            }
            if (how == DAY_ALONE) {
                return daysByDay();
            }
            if (how == WEEKDAY_ALONE) {
                return daysByWeekday();
            }
            return dayStar || weekdayStar ? daysByDay() & daysByWeekday() : daysByDay() | daysByWeekday();
        }

        long daysByDay() {
            int last = civil.monthDays;
            long right = numbers[DAY] & below(last + 1);
            for (int n = 0; n < last && daysBeforeLast != 0; n++) {
                if (holds(daysBeforeLast, n)) {
                    right |= 1L << (last - n);
                }
            }
            // The last working day is the one nearest to the last day.
            long near = lastWorkday ? nearWorkdays | 1L << last : nearWorkdays;
            int weekday = civil.firstWeekday;
            for (int n = 1; n <= last && near != 0; n++) {
                if (holds(near, n)) {
                    int day = n;
                    if (weekday == 6) {
                        day = n == 1 ? 3 : n - 1;
                    } else if (weekday == 0) {
                        day = n == last ? n - 2 : n + 1;
                    }
                    right |= 1L << day;
                }
                weekday = weekday == 6 ? 0 : weekday + 1;
            }
            return right;
        }

        long daysByWeekday() {
            int last = civil.monthDays;
            long right = 0;
            for (int k = 1; k <= 5; k++) {
                // The k-th one of each WEEKDAY lies in the k-th seven days.
                long weekdays = numbers[WEEKDAY] | kthWeekdays >>> 7 * k;
                right |= weekFrom(civil.firstWeekday, weekdays) << 7 * k - 6;
            }
            // The last one of each lies in the last seven days, which begin on this WEEKDAY.
            int weekday = (civil.firstWeekday + last) % 7;
            right |= weekFrom(weekday, lastWeekdays) << last - 6;
            return right & below(last + 1);
        }

        /** Which of the seven days that begin on a WEEKDAY are in a set of them. */
        static long weekFrom(int weekday, long weekdays) {
            long week = weekdays & 127;
            return (week >>> weekday | week << 7 - weekday) & 127;
        }

        boolean isRight(int day) {
            if (day != knownDay) {
                civil.goToDay(day);
                knownRight = holds(rightDays(WHOLE_DATE), civil.day);
                knownDay = day;
            }
            return knownRight;
        }

        int firstRightDay(int first, int last) {
            civil.goToDay(first);
            for (int i = 0; i < MOST_MONTHS && civil.monthStart <= last; i++) {
                long right = rightDays(WHOLE_DATE) & civil.daysWithin(first, last);
                if (right != 0) {
                    return civil.monthStart + lowest(right) - 1;
                }
                civil.goToNextMonth();
            }
            return NOWHERE;
        }

        int lastRightDay(int first, int last) {
            civil.goToDay(last);
            for (int i = 0; i < MOST_MONTHS && civil.monthStart + civil.monthDays > first; i++) {
                long right = rightDays(WHOLE_DATE) & civil.daysWithin(first, last);
                if (right != 0) {
                    return civil.monthStart + highest(right) - 1;
                }
                civil.goToMonthBefore();
            }
            return NOWHERE;
        }

        int rightDaysIn(int first, int last) {
            int n = 0;
            civil.goToDay(first);
            for (int i = 0; i < MOST_MONTHS && civil.monthStart <= last; i++) {
                n += Long.bitCount(rightDays(WHOLE_DATE) & civil.daysWithin(first, last));
                civil.goToNextMonth();
            }
            return n;
        }

        /** The least time of a day, in minutes, from one on that is in HOUR and MINUTE. */
        int timeFrom(int time) {
            int hour = time / 60;
            long minutes = numbers[MINUTE] & ~below(time % 60);
            if (holds(numbers[HOUR], hour) && minutes != 0) {
                return hour * 60 + lowest(minutes);
            }
            long later = numbers[HOUR] & ~below(hour + 1);
            return later == 0 ? NONE : lowest(later) * 60 + lowest(numbers[MINUTE]);
        }

        int timeUpTo(int time) {
            int hour = time / 60;
            long minutes = numbers[MINUTE] & below(time % 60 + 1);
            if (holds(numbers[HOUR], hour) && minutes != 0) {
                return hour * 60 + highest(minutes);
            }
            long earlier = numbers[HOUR] & below(hour);
            return earlier == 0 ? NONE : highest(earlier) * 60 + highest(numbers[MINUTE]);
        }

        int timesBefore(int time) {
            int hour = time / 60;
            int n = Long.bitCount(numbers[HOUR] & below(hour)) * Long.bitCount(numbers[MINUTE]);
            return holds(numbers[HOUR], hour) ? n + Long.bitCount(numbers[MINUTE] & below(time % 60)) : n;
        }

        int firstIn(int low, int high) {
            int day = Math.floorDiv(low, DAY_MINUTES);
            int time = isRight(day) ? timeFrom(low - day * DAY_MINUTES) : NONE;
            if (time == NONE) {
                day = firstRightDay(day + 1, Math.floorDiv(high, DAY_MINUTES));
                time = timeFrom(0);
            }
            int found = day * DAY_MINUTES + time;
            return day == NOWHERE || found > high ? NOWHERE : found;
        }

        int lastIn(int low, int high) {
            int day = Math.floorDiv(high, DAY_MINUTES);
            int time = isRight(day) ? timeUpTo(high - day * DAY_MINUTES) : NONE;
            if (time == NONE) {
                day = lastRightDay(Math.floorDiv(low, DAY_MINUTES), day - 1);
                time = timeUpTo(DAY_MINUTES - 1);
            }
            int found = day * DAY_MINUTES + time;
            return day == NOWHERE || found < low ? NOWHERE : found;
        }

        int countIn(int low, int high) {
            int first = Math.floorDiv(low, DAY_MINUTES);
            int last = Math.floorDiv(high, DAY_MINUTES);
            int whole = timesBefore(DAY_MINUTES);
            int n = rightDaysIn(first, last) * whole;
            // Both days at the edges were counted whole.
            if (isRight(first)) {
                n -= timesBefore(low - first * DAY_MINUTES);
            }
            if (isRight(last)) {
                n -= whole - timesBefore(high - last * DAY_MINUTES + 1);
            }
            return n;
        }
    }

    /** The tape, and what reads a text from it. The first fault that it comes to is the first from the left. */
    private static final class Tape {
        static final int END = -1;
        static final int CANT_STAND = 1;
        static final int OUT_OF_BOUNDS = 2;
        static final int IS_LESS = 3;

        final int[] bytes = new int[MOST_BYTES];
        int length;
        int at;
        int code;
        int place;
        // What was read last; nobody's at first, so that it is never null.
        Rule rule = new Rule();

        void add(int newByte) {
            if (length < MOST_BYTES) {
                bytes[length] = newByte;
                length++;
            }
        }

        /** Answers the code of the fault, 0 for none. */
        int read(Rule target) {
            rule = target;
            rule.clear();
            at = 0;
            code = 0;
            place = 0;
            skipBlanks();
            if (look() == '@') {
                readWord();
            } else {
                readField(MINUTE);
                for (int field = HOUR; field < FIELDS && code == 0; field++) {
                    skipBlanks();
                    // The YEAR alone may be left out.
                    if (field != YEAR || look() != END) {
                        readField(field);
                    }
                }
            }
            skipBlanks();
            if (at < length) {
                fail(CANT_STAND, at);
            }
            return code;
        }

        int look() {
            return at < length && at < MOST_BYTES ? bytes[at] : END;
        }

        void fail(int newCode, int newPlace) {
            if (code == 0) {
                code = newCode;
                place = newPlace;
            }
        }

        void skipBlanks() {
            for (int i = 0; i < MOST_BYTES && look() == ' '; i++) {
                at++;
            }
        }

        void readWord() {
            at++;
            int letter = look();
            String word = wordWith(letter);
            for (int i = 0; i < word.length(); i++) {
                if (look() != word.charAt(i)) {
                    fail(CANT_STAND, at);
                    return;
                }
                at++;
            }
            rule.add(MINUTE, 0, 0, 1);
            rule.add(HOUR, 0, letter == 'h' ? 23 : 0, 1);
            rule.dayStar = letter != 'm' && letter != 'y';
            rule.add(DAY, 1, rule.dayStar ? 31 : 1, 1);
            rule.add(MONTH, 1, letter == 'y' ? 1 : 12, 1);
            rule.weekdayStar = letter != 'w';
            rule.add(WEEKDAY, 0, rule.weekdayStar ? 6 : 0, 1);
        }

        static String wordWith(int letter) {
            switch (letter) {
                case 'h': return "hourly";
                case 'd': return "daily";
                case 'w': return "weekly";
                case 'm': return "monthly";
                // Any other letter fails at once against this one.
                default: return "yearly";
            }
        }

        void readField(int field) {
            rule.beginField(field, look() == '*');
            readItem(field);
            for (int i = 0; i < MOST_BYTES && code == 0 && look() == ','; i++) {
                at++;
                readItem(field);
            }
            if (look() != ' ' && look() != END) {
                fail(CANT_STAND, at);
            }
        }

        void readItem(int field) {
            if (look() == '*') {
                at++;
                addStretch(field, LEAST[field], GREATEST[field]);
                return;
            }
            if (field == DAY && look() == 'L') {
                at++;
                readLastDay();
                return;
            }
            int from = readValue(field);
            if (code != 0) {
                return;
            }
            if (look() == '-') {
                at++;
                int second = at;
                int to = readValue(field);
                if (to < from) {
                    fail(IS_LESS, second);
                }
                addStretch(field, from, to);
            } else if (look() == '/') {
                addStretch(field, from, field == WEEKDAY && from < 7 ? 6 : GREATEST[field]);
            } else if (field == DAY && look() == 'W') {
                at++;
                rule.nearWorkdays |= 1L << from;
            } else if (field == WEEKDAY && (look() == 'L' || look() == '#')) {
                readWhichWeekday(from % 7);
            } else {
                rule.add(field, from, from, 1);
            }
        }

        void readWhichWeekday(int weekday) {
            boolean last = look() == 'L';
            at++;
            if (last) {
                rule.lastWeekdays |= 1L << weekday;
            } else {
                rule.kthWeekdays |= 1L << 7 * readNumber(1, 1, 5) + weekday;
            }
        }

        void readLastDay() {
            if (look() == 'W') {
                at++;
                rule.lastWorkday = true;
            } else if (look() == '-') {
                at++;
                rule.daysBeforeLast |= 1L << readNumber(2, 1, 30);
            } else {
                rule.daysBeforeLast |= 1L;
            }
        }

        /** Adds what lies between two values, with the step that may stand behind them. */
        void addStretch(int field, int from, int to) {
            int step = 1;
            if (code == 0 && look() == '/') {
                at++;
                step = readNumber(4, 1, 1000);
            }
            if (code == 0) {
                rule.add(field, from, to, step);
            }
        }

        int readValue(int field) {
            boolean figure = look() >= '0' && look() <= '9';
            if (field == MONTH && !figure) {
                return readName(MONTH_NAMES) + 1;
            }
            if (field == WEEKDAY && !figure) {
                return readName(WEEKDAY_NAMES);
            }
            return readNumber(4, LEAST[field], GREATEST[field]);
        }

        int readNumber(int figures, int least, int greatest) {
            int start = at;
            int n = 0;
            for (int i = 0; i < figures && look() >= '0' && look() <= '9'; i++) {
                n = n * 10 + look() - '0';
                at++;
            }
            boolean goesOn = look() >= '0' && look() <= '9';
            if (at == start || goesOn) {
                fail(CANT_STAND, at);
            } else if (n < least || n > greatest) {
                fail(OUT_OF_BOUNDS, start);
            }
            return n;
        }

        /** Answers which name stands there, from 0 on; a byte with which no name goes on is a fault. */
        int readName(String names) {
            int start = at;
            int name = 0;
            for (int n = 1; n <= NAME_LENGTH && code == 0; n++) {
                name = nameLike(names, start, n);
                if (name == NONE) {
                    fail(CANT_STAND, at);
                } else {
                    at++;
                }
            }
            return name;
        }

        int nameLike(String names, int start, int letters) {
            for (int first = 0; first + letters <= names.length(); first += NAME_LENGTH) {
                int same = 0;
                for (int i = 0; i < letters && start + i < length; i++) {
                    if (bytes[start + i] == names.charAt(first + i)) {
                        same++;
                    }
                }
                if (same == letters) {
                    return first / NAME_LENGTH;
                }
            }
            return NONE;
        }
    }

    /** An order and its runs, those begun first standing first; all of one order take equally long. */
    private static final class Order {
        final int number;
        final Rule rule = new Rule();
        final int[] began = new int[MOST_RUNS];
        final int[] matched = new int[MOST_RUNS];
        boolean used;
        // Nobody's zone until the number is used, so that it is never null.
        Zone zone = new Zone();
        int zoneNumber;
        int way;
        int grace;
        int overlap;
        int takes;
        int running;
        boolean waits;
        int waiting;
        int begun;
        int dropped;
        int nextDue;

        Order(int itsNumber) {
            number = itsNumber;
        }

        void begin(int newNumber, Zone newZone) {
            used = true;
            zoneNumber = newNumber;
            zone = newZone;
            begun = 0;
            dropped = 0;
            clearRuns();
        }

        void settle(int newWay, int newGrace, int newOverlap, int newTakes) {
            way = newWay;
            grace = newGrace;
            overlap = newOverlap;
            takes = newTakes;
        }

        void clearRuns() {
            running = 0;
            waits = false;
        }

        boolean mayBegin() {
            return running == 0 || overlap == TOGETHER && running < MOST_RUNS;
        }

        boolean mayWait() {
            return overlap == WAIT && !waits;
        }

        void addRun(int minute, int matchedMinute) {
            if (running < MOST_RUNS) {
                began[running] = minute;
                matched[running] = matchedMinute;
                running++;
                begun++;
            }
        }

        void removeFirstRun() {
            for (int i = 1; i < running && i < MOST_RUNS; i++) {
                began[i - 1] = began[i];
                matched[i - 1] = matched[i];
            }
            running = Math.max(running - 1, 0);
        }

        int firstEnd() {
            return began[0] + takes;
        }

        int leastMatch(int first, int last) {
            for (int stretch = 0; stretch <= zone.changes; stretch++) {
                int offset = zone.offsets[stretch];
                int low = Math.max(first, zone.starts[stretch]);
                int high = Math.min(last, zone.lastMinuteOf(stretch));
                int found = low <= high ? rule.firstIn(low + offset, high + offset) : NOWHERE;
                if (found != NOWHERE) {
                    return found - offset;
                }
            }
            return NONE;
        }

        int greatestMatch(int first, int last) {
            for (int stretch = zone.changes; stretch >= 0; stretch--) {
                int offset = zone.offsets[stretch];
                int low = Math.max(first, zone.starts[stretch]);
                int high = Math.min(last, zone.lastMinuteOf(stretch));
                int found = low <= high ? rule.lastIn(low + offset, high + offset) : NOWHERE;
                if (found != NOWHERE) {
                    return found - offset;
                }
            }
            return NONE;
        }

        int matchesIn(int first, int last) {
            int n = 0;
            for (int stretch = 0; stretch <= zone.changes; stretch++) {
                int offset = zone.offsets[stretch];
                int low = Math.max(first, zone.starts[stretch]);
                int high = Math.min(last, zone.lastMinuteOf(stretch));
                n += low <= high ? rule.countIn(low + offset, high + offset) : 0;
            }
            return n;
        }
    }

    /** The first lines are kept, the rest is counted. */
    private static final class Log {
        final int[] kinds = new int[MOST_LINES];
        final int[] numbers = new int[MOST_LINES];
        final int[] minutes = new int[MOST_LINES];
        final int[] matched = new int[MOST_LINES];
        int count;

        int kept() {
            return Math.min(count, MOST_LINES);
        }

        void add(int kind, int number, int minute, int matchedMinute) {
            // Beyond the calls that are promised the number of lines may wrap around.
            if (count >= 0 && count < MOST_LINES) {
                kinds[count] = kind;
                numbers[count] = number;
                minutes[count] = minute;
                matched[count] = matchedMinute;
            }
            count++;
        }
    }
}
