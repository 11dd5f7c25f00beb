import java.time.DayOfWeek;
import java.time.LocalDate;
import java.time.temporal.ChronoUnit;
import java.util.ArrayList;
import java.util.Arrays;
import java.util.Comparator;
import java.util.HashMap;
import java.util.List;
import java.util.Map;
import java.util.TreeMap;
import java.util.TreeSet;
import java.util.regex.Matcher;
import java.util.regex.Pattern;

/**
 * The document done over again in the slowest and plainest way, to compare with: every minute is
 * looked at, dates come from java.time, texts are taken apart by regular expressions.
 */
final class Model {
    static final int LAST = 157785119;
    private static final LocalDate BEGIN = LocalDate.of(1900, 1, 1);

    static final class Run {
        final int order;
        final int began;
        final int matched;
        final int serial;

        Run(int order, int began, int matched, int serial) {
            this.order = order;
            this.began = began;
            this.matched = matched;
            this.serial = serial;
        }
    }

    static final class Order {
        ModelText text;
        int zone;
        int way;
        int grace;
        int overlap;
        int takes;
        Integer waits;
        int begun;
        int dropped;
    }

    private final List<TreeMap<Integer, Integer>> zones = new ArrayList<>();
    private final Order[] orders = new Order[12];
    private final StringBuilder tape = new StringBuilder();
    private final List<int[]> lines = new ArrayList<>();
    private final List<Run> runs = new ArrayList<>();
    private int fault;
    private int clock;
    private int fellAsleep = -1;
    private int serial;

    Model() {
        for (int z = 0; z < 4; z++) {
            zones.add(new TreeMap<>(Map.of(-1, 0)));
        }
    }

    private TreeMap<Integer, Integer> zoneOf(int z) {
        if (z < 0 || z > 3) {
            throw new IndexOutOfBoundsException();
        }
        return zones.get(z);
    }

    private Order orderOf(int o) {
        if (o < 0 || o > 11 || orders[o] == null) {
            throw new IndexOutOfBoundsException();
        }
        return orders[o];
    }

    private static void must(boolean told) {
        if (!told) {
            throw new IllegalArgumentException();
        }
    }

    private static boolean in(int n, int least, int greatest) {
        return n >= least && n <= greatest;
    }

    // A change at -1 stands for the offset from the beginning on.
    void zone(int z, int offset) {
        TreeMap<Integer, Integer> zone = zoneOf(z);
        must(in(offset, -1439, 1439));
        zone.clear();
        zone.put(-1, offset);
    }

    int change(int z, int minute, int offset) {
        TreeMap<Integer, Integer> zone = zoneOf(z);
        must(in(minute, 0, LAST) && minute > zone.lastKey() && in(offset, -1439, 1439));
        if (zone.size() == 21) {
            throw new IllegalStateException();
        }
        zone.put(minute, offset);
        return zone.size() - 1;
    }

    private int stands(int z, int minute) {
        return minute + zones.get(z).floorEntry(minute).getValue();
    }

    static LocalDate dateOf(int civilMinute) {
        return BEGIN.plusDays(Math.floorDiv(civilMinute, 1440));
    }

    int civil(int z, int minute, int what) {
        zoneOf(z);
        must(in(minute, 0, LAST) && in(what, 0, 7));
        int stands = stands(z, minute);
        LocalDate date = dateOf(stands);
        int time = Math.floorMod(stands, 1440);
        return new int[] {date.getYear(), date.getMonthValue(), date.getDayOfMonth(),
            date.getDayOfWeek().getValue() % 7, time / 60, time % 60, date.getDayOfYear(),
            date.lengthOfMonth()}[what];
    }

    private static LocalDate checkedDate(int year, int month, int day) {
        must(in(year, 1899, 2200) && in(month, 1, 12));
        must(in(day, 1, LocalDate.of(year, month, 1).lengthOfMonth()));
        return LocalDate.of(year, month, day);
    }

    int minute(int z, int year, int month, int day, int hour, int minute) {
        zoneOf(z);
        LocalDate date = checkedDate(year, month, day);
        must(in(hour, 0, 23) && in(minute, 0, 59));
        int wanted = (int) ChronoUnit.DAYS.between(BEGIN, date) * 1440 + hour * 60 + minute;
        for (int m = Math.max(0, wanted - 1439); m <= Math.min(LAST, wanted + 1439); m++) {
            if (stands(z, m) == wanted) {
                return m;
            }
        }
        return -1;
    }

    int feed(long bytes, int n) {
        must(in(n, 1, 8));
        if (tape.length() + n > 160) {
            throw new IllegalStateException();
        }
        for (int i = n - 1; i >= 0; i--) {
            tape.append((char) (bytes >> 8 * i & 0xff));
        }
        return tape.length();
    }

    int order(int z, int way, int grace, int overlap, int takes) {
        zoneOf(z);
        must(in(way, 0, 2) && in(grace, 0, 100000) && in(overlap, 0, 2) && in(takes, 1, 10000));
        int number = Arrays.asList(orders).indexOf(null);
        if (number < 0) {
            throw new IllegalStateException();
        }
        String text = tape.toString();
        tape.setLength(0);
        int[] found = ModelText.faultOf(text);
        fault = found[1];
        if (fault != 0) {
            return -2 - found[0];
        }
        Order o = new Order();
        o.text = new ModelText(text);
        o.zone = z;
        o.way = way;
        o.grace = grace;
        o.overlap = overlap;
        o.takes = takes;
        orders[number] = o;
        return number;
    }

    int fault() {
        return fault;
    }

    int cancel(int order) {
        orderOf(order);
        orders[order] = null;
        runs.removeIf(r -> r.order == order);
        return count(2);
    }

    int told(int order, int what) {
        Order o = orderOf(order);
        must(in(what, 0, 10));
        return new int[] {o.zone, o.way, o.grace, o.overlap, o.takes, running(order), o.waits != null ? 1 : 0,
            o.begun, o.dropped, o.text.fields[2].startsWith("*") ? 1 : 0,
            o.text.fields[4].startsWith("*") ? 1 : 0}[what];
    }

    long field(int order, int field) {
        Order o = orderOf(order);
        must(in(field, 0, 4));
        long bits = 0;
        for (int n : o.text.plain.get(field)) {
            bits |= 1L << n;
        }
        return bits;
    }

    boolean day(int order, int how, int year, int month, int day) {
        Order o = orderOf(order);
        must(in(how, 0, 3));
        return o.text.dayIsRight(checkedDate(year, month, day), how);
    }

    boolean matches(int order, int minute) {
        Order o = orderOf(order);
        must(in(minute, 0, LAST));
        return o.text.matches(stands(o.zone, minute));
    }

    int next(int order, int minute, int days) {
        orderOf(order);
        must(in(minute, 0, LAST) && in(days, 0, 20000));
        for (int m = minute + 1; m <= Math.min(LAST, minute + days * 1440); m++) {
            if (matches(order, m)) {
                return m;
            }
        }
        return -1;
    }

    int before(int order, int minute, int days) {
        orderOf(order);
        must(in(minute, 0, LAST) && in(days, 0, 20000));
        for (int m = minute - 1; m >= Math.max(0, minute - days * 1440); m--) {
            if (matches(order, m)) {
                return m;
            }
        }
        return -1;
    }

    int between(int order, int minute, int last) {
        orderOf(order);
        must(in(minute, 0, LAST) && in(last, minute, LAST) && last - minute <= 20000 * 1440);
        int n = 0;
        for (int m = minute + 1; m <= last; m++) {
            n += matches(order, m) ? 1 : 0;
        }
        return n;
    }

    void put(int minute) {
        must(in(minute, 0, LAST));
        if (fellAsleep >= 0) {
            throw new IllegalStateException();
        }
        clock = minute;
        runs.clear();
        for (Order o : orders) {
            if (o != null) {
                o.waits = null;
            }
        }
    }

    int pass(int n) {
        must(in(n, 0, fellAsleep >= 0 ? 3000000 : 3000) && n <= LAST - clock);
        if (fellAsleep >= 0) {
            clock += n;
            return clock;
        }
        for (int i = 0; i < n; i++) {
            clock++;
            for (int o = 0; o < 12; o++) {
                for (Run r : new ArrayList<>(runs)) {
                    if (r.order == o && r.began == clock - orders[o].takes) {
                        finish(r, clock);
                    }
                }
            }
            for (int o = 0; o < 12; o++) {
                if (orders[o] != null && matches(o, clock)) {
                    due(o, clock);
                }
            }
        }
        return clock;
    }

    private int running(int order) {
        return (int) runs.stream().filter(r -> r.order == order).count();
    }

    private void tell(int kind, int order, int minute, int matched) {
        lines.add(new int[] {kind, order, minute, matched});
    }

    private void begin(int order, int minute, int matched) {
        runs.add(new Run(order, minute, matched, serial++));
        orders[order].begun++;
        tell(0, order, minute, matched);
    }

    private void finish(Run r, int minute) {
        runs.remove(r);
        tell(1, r.order, minute, r.matched);
        Order o = orders[r.order];
        if (o.waits != null && running(r.order) == 0) {
            int matched = o.waits;
            o.waits = null;
            begin(r.order, minute, matched);
        }
    }

    private void due(int order, int matched) {
        Order o = orders[order];
        int running = running(order);
        if (running == 0 || o.overlap == 0 && running < 8) {
            begin(order, clock, matched);
        } else if (o.overlap == 2 && o.waits == null) {
            o.waits = matched;
            tell(3, order, clock, matched);
        } else {
            o.dropped++;
            tell(2, order, clock, matched);
        }
    }

    void sleep() {
        if (fellAsleep >= 0) {
            throw new IllegalStateException();
        }
        fellAsleep = clock;
    }

    int wake() {
        if (fellAsleep < 0) {
            throw new IllegalStateException();
        }
        int had = lines.size();
        Comparator<Run> byEnd = Comparator.comparingInt(r -> r.began + orders[r.order].takes);
        Comparator<Run> first = byEnd.thenComparingInt(r -> r.order).thenComparingInt(r -> r.serial);
        while (!runs.isEmpty()) {
            Run r = runs.stream().min(first).get();
            int end = r.began + orders[r.order].takes;
            if (end > clock) {
                break;
            }
            finish(r, end);
        }
        for (int o = 0; o < 12; o++) {
            if (orders[o] == null || orders[o].way == 0) {
                continue;
            }
            List<Integer> missed = new ArrayList<>();
            // What is older than the greatest GRACE is never made up for.
            for (int m = Math.max(fellAsleep + 1, clock - 100001); m <= clock; m++) {
                if (matches(o, m)) {
                    missed.add(m);
                }
            }
            if (orders[o].way == 1 && missed.size() > 1) {
                missed = missed.subList(missed.size() - 1, missed.size());
            }
            for (int m : missed) {
                if (clock - m <= orders[o].grace) {
                    due(o, m);
                }
            }
        }
        fellAsleep = -1;
        return lines.size() - had;
    }

    int log(int line, int what) {
        if (line < 0 || line >= Math.min(300, lines.size())) {
            throw new IndexOutOfBoundsException();
        }
        must(in(what, 0, 3));
        return lines.get(line)[what];
    }

    int tear() {
        int n = lines.size();
        lines.clear();
        return n;
    }

    int count(int what) {
        must(in(what, 0, 5));
        int n = (int) Arrays.stream(orders).filter(o -> o != null).count();
        return new int[] {clock, fellAsleep < 0 ? 1 : 0, n, lines.size(), tape.length(), runs.size()}[what];
    }
}

/** A text, taken apart. */
final class ModelText {
    private static final String[] WORDS = {"@hourly", "0 * * * *", "@daily", "0 0 * * *", "@weekly", "0 0 * * 0",
        "@monthly", "0 0 1 * *", "@yearly", "0 0 1 1 *"};
    private static final List<String> MONTHS =
        List.of("jan", "feb", "mar", "apr", "may", "jun", "jul", "aug", "sep", "oct", "nov", "dec");
    private static final List<String> WEEKDAYS = List.of("sun", "mon", "tue", "wed", "thu", "fri", "sat");
    private static final int[] LEAST = {0, 0, 1, 1, 0, 1900};
    private static final int[] GREATEST = {59, 23, 31, 12, 7, 2199};

    private static final String NUMBER = "[0-9]{1,4}";
    private static final Pattern SHAPE = Pattern.compile(shape());

    private static String field(String value, String more) {
        String item = "(?:\\*(?:/" + NUMBER + ")?|" + value + "(?:-" + value + ")?(?:/" + NUMBER + ")?" + more + ")";
        return item + "(?:," + item + ")*";
    }

    private static String shape() {
        String month = "(?:" + NUMBER + "|" + String.join("|", MONTHS) + ")";
        String weekday = "(?:" + NUMBER + "|" + String.join("|", WEEKDAYS) + ")";
        String plain = field(NUMBER, "");
        String day = field(NUMBER, "|L(?:W|-[0-9]{1,2})?|" + NUMBER + "W");
        String fields = plain + " +" + plain + " +" + day + " +" + field(month, "") + " +"
            + field(weekday, "|" + weekday + "(?:L|#[0-9])") + "(?: +" + plain + ")?";
        return " *(?:@(?:hourly|daily|weekly|monthly|yearly)|" + fields + ") *";
    }

    /** The place and the code of a text's fault. */
    static int[] faultOf(String text) {
        int shapeless = firstThatCantStand(text);
        int[] found = shapeless < 0 ? new int[] {-1, 0} : new int[] {shapeless, 1};
        int end = shapeless < 0 ? text.length() : shapeless;
        if (text.trim().startsWith("@")) {
            return found;
        }
        Matcher fields = Pattern.compile("[^ ]+").matcher(text);
        for (int f = 0; f < 6 && fields.find() && fields.start() < end; f++) {
            int[] numbers = firstWrongNumber(text, f, fields.start(), Math.min(fields.end(), end));
            if (numbers != null) {
                return numbers;
            }
        }
        return found;
    }

    // The shortest beginning with which no text goes on; hitEnd tells whether more bytes could help.
    private static int firstThatCantStand(String text) {
        for (int n = 1; n <= text.length(); n++) {
            Matcher m = SHAPE.matcher(text.substring(0, n));
            if (!m.matches() && !m.hitEnd()) {
                return n - 1;
            }
        }
        return SHAPE.matcher(text).matches() ? -1 : text.length();
    }

    private static int[] firstWrongNumber(String text, int f, int from, int to) {
        Matcher token = Pattern.compile("[0-9]+|[a-z]{3}|[^0-9]").matcher(text).region(from, to);
        char before = ',';
        int first = -1;
        while (token.find()) {
            String s = token.group();
            char next = token.end() < text.length() ? text.charAt(token.end()) : ' ';
            boolean goesOn = Character.isDigit(next) && next < 128 && Character.isDigit(s.charAt(0));
            if (s.length() == 1 && !Character.isDigit(s.charAt(0)) || goesOn) {
                before = before == 'L' && s.equals("-") ? 'l' : s.charAt(0);
                continue;
            }
            int n = valueOf(s, f);
            boolean right = before == '/' ? n >= 1 && n <= 1000
                : before == 'l' ? n >= 1 && n <= 30
                : before == '#' ? n >= 1 && n <= 5
                : n >= LEAST[f] && n <= GREATEST[f];
            if (!right) {
                return new int[] {token.start(), 2};
            }
            if (before == '-' && n < first) {
                return new int[] {token.start(), 3};
            }
            first = before == ',' ? n : first;
            before = ' ';
        }
        return null;
    }

    private static int valueOf(String s, int f) {
        if (Character.isDigit(s.charAt(0))) {
            return Integer.parseInt(s);
        }
        return f == 3 ? MONTHS.indexOf(s) + 1 : WEEKDAYS.indexOf(s);
    }

    final String[] fields;
    final List<TreeSet<Integer>> plain = new ArrayList<>();
    private final Map<Integer, Boolean> known = new HashMap<>();

    ModelText(String text) {
        String t = text.trim();
        for (int i = 0; i < WORDS.length; i += 2) {
            t = t.equals(WORDS[i]) ? WORDS[i + 1] : t;
        }
        fields = t.split(" +");
        for (int f = 0; f < fields.length; f++) {
            TreeSet<Integer> numbers = new TreeSet<>();
            for (String item : fields[f].split(",")) {
                if (!isSpecial(item)) {
                    addItem(numbers, item, f);
                }
            }
            plain.add(numbers);
        }
    }

    private static boolean isSpecial(String item) {
        return item.contains("L") || item.contains("W") || item.contains("#");
    }

    private static void addItem(TreeSet<Integer> numbers, String item, int f) {
        String[] halves = item.split("/");
        int step = halves.length > 1 ? Integer.parseInt(halves[1]) : 1;
        int from = LEAST[f];
        int to = f == 4 ? 6 : GREATEST[f];
        if (!halves[0].equals("*")) {
            String[] values = halves[0].split("-");
            from = valueOf(values[0], f);
            if (values.length > 1) {
                to = valueOf(values[1], f);
            } else if (halves.length == 1 || from > to) {
                to = from;
            }
        }
        for (int n = from; n <= to; n += step) {
            numbers.add(f == 4 ? n % 7 : n);
        }
    }

    private boolean byDay(LocalDate date) {
        int length = date.lengthOfMonth();
        boolean right = plain.get(2).contains(date.getDayOfMonth());
        for (String item : fields[2].split(",")) {
            if (item.equals("L")) {
                right |= date.getDayOfMonth() == length;
            } else if (item.equals("LW")) {
                LocalDate last = date.withDayOfMonth(length);
                while (!isWorkday(last)) {
                    last = last.minusDays(1);
                }
                right |= date.equals(last);
            } else if (item.startsWith("L-")) {
                right |= date.getDayOfMonth() == length - Integer.parseInt(item.substring(2));
            } else if (item.endsWith("W")) {
                int n = Integer.parseInt(item.substring(0, item.length() - 1));
                right |= n <= length && date.equals(nearest(date.withDayOfMonth(n)));
            }
        }
        return right;
    }

    private static boolean isWorkday(LocalDate date) {
        return date.getDayOfWeek() != DayOfWeek.SATURDAY && date.getDayOfWeek() != DayOfWeek.SUNDAY;
    }

    // Farther and farther away, earlier days first from a Saturday, later ones first from a Sunday.
    private static LocalDate nearest(LocalDate date) {
        int first = date.getDayOfWeek() == DayOfWeek.SATURDAY ? -1 : 1;
        for (int away = 0; away < 4; away++) {
            for (int side = first; side == first || side == -first; side -= 2 * first) {
                LocalDate d = date.plusDays(side * away);
                if (isWorkday(d) && d.getMonth() == date.getMonth()) {
                    return d;
                }
            }
        }
        throw new AssertionError();
    }

    private boolean byWeekday(LocalDate date) {
        int weekday = date.getDayOfWeek().getValue() % 7;
        boolean right = plain.get(4).contains(weekday);
        for (String item : fields[4].split(",")) {
            if (item.endsWith("L")) {
                boolean last = date.plusDays(7).getMonth() != date.getMonth();
                right |= last && valueOf(item.substring(0, item.length() - 1), 4) % 7 == weekday;
            } else if (item.contains("#")) {
                String[] parts = item.split("#");
                int k = 1;
                for (LocalDate d = date.minusDays(7); d.getMonth() == date.getMonth(); d = d.minusDays(7)) {
                    k++;
                }
                right |= valueOf(parts[0], 4) % 7 == weekday && Integer.parseInt(parts[1]) == k;
            }
        }
        return right;
    }

    boolean dayIsRight(LocalDate date, int how) {
        if (how == 0) {
            return byDay(date);
        }
        if (how == 1) {
            return byWeekday(date);
        }
        boolean both = fields[2].startsWith("*") || fields[4].startsWith("*");
        boolean right = both ? byDay(date) && byWeekday(date) : byDay(date) || byWeekday(date);
        return right && (how == 2 || plain.get(3).contains(date.getMonthValue())
            && (plain.size() < 6 || plain.get(5).contains(date.getYear())));
    }

    boolean matches(int civilMinute) {
        int time = Math.floorMod(civilMinute, 1440);
        return plain.get(0).contains(time % 60) && plain.get(1).contains(time / 60)
            && known.computeIfAbsent(Math.floorDiv(civilMinute, 1440), d -> dayIsRight(Model.dateOf(civilMinute), 3));
    }
}
