import java.util.ArrayList;
import java.util.List;
import java.util.Random;
import java.util.function.Supplier;

/** Random runs of all calls, on the class and on the model; every answer must be the same. */
public final class ModelTest {
    private static final String[] MONTHS =
        {"jan", "feb", "mar", "apr", "may", "jun", "jul", "aug", "sep", "oct", "nov", "dec"};
    private static final String[] WEEKDAYS = {"sun", "mon", "tue", "wed", "thu", "fri", "sat"};
    private static final int LAST = Model.LAST;

    private final Random random;
    private final CalendarOrders x = new CalendarOrders();
    private final Model model = new Model();
    private final List<String> history = new ArrayList<>();
    private final int home;
    private boolean same = true;

    private ModelTest(long seed) {
        random = new Random(seed);
        int[] homes = {0, 3000, LAST - 60000, 52594560, 58000000, random.nextInt(LAST)};
        home = homes[random.nextInt(homes.length)];
    }

    public static void main(String[] args) {
        int runs = args.length > 0 ? Integer.parseInt(args[0]) : 600;
        for (int seed = 0; seed < runs; seed++) {
            new ModelTest(seed).run();
        }
        for (int seed = 0; seed < runs; seed++) {
            new ModelTest(1000000L + seed).runTexts();
        }
        Due.end("ModelTest");
    }

    private int pick(int n) {
        return random.nextInt(n);
    }

    private void both(String call, Supplier<?> mine, Supplier<?> its) {
        // The document promises nothing beyond 512 calls.
        if (!same || history.size() >= 512) {
            return;
        }
        Object got = Due.answerOf(mine);
        Object want = Due.answerOf(its);
        history.add(call + " -> " + want);
        Due.is(call, got, want);
        if (!got.equals(want)) {
            same = false;
            history.forEach(System.out::println);
        }
    }

    private static Supplier<?> nothing(Runnable r) {
        return () -> {
            r.run();
            return "nothing";
        };
    }

    private void run() {
        if (pick(4) > 0) {
            put(home);
        }
        for (int i = 0; i < 4 && pick(3) > 0; i++) {
            order(text());
        }
        for (int i = 0; i < 200 && history.size() < 360; i++) {
            step();
        }
        for (int o = 0; o < 12; o++) {
            told(o, 5 + pick(4));
        }
        int lines = Math.min(model.count(3), 300);
        for (int i = 0; i < 35; i++) {
            int line = pick(lines + 1);
            for (int what = 0; what < 4; what++) {
                log(line, what);
            }
        }
    }

    private void step() {
        switch (pick(24)) {
            case 0: zone(pick(5), offset()); break;
            case 1: case 2: change(pick(4), near(3000), offset()); break;
            case 3: civil(pick(5), near(3000), pick(9)); break;
            case 4: minuteOf(); break;
            case 5: order(text()); break;
            case 6: order(spoil(text())); break;
            case 7: cancel(pick(13)); break;
            case 8: told(pick(13) - 1, pick(12)); break;
            case 9: field(pick(12), pick(6)); break;
            case 10: day(); break;
            case 11: matches(pick(8), near(5000)); break;
            case 12: next(pick(8), near(5000), pick(3) == 0 ? pick(300) : pick(9)); break;
            case 13: before(pick(8), near(5000), pick(3) == 0 ? pick(300) : pick(9)); break;
            case 14: between(pick(8), near(5000), pick(40000) - 20); break;
            case 15: if (pick(8) == 0) { put(near(3000)); } break;
            case 16: case 17: pass(pick(8) == 0 ? pick(3100) : pick(40)); break;
            case 18: pass(pick(5) == 0 ? pick(150000) : pick(400)); break;
            case 19: sleep(); break;
            case 20: case 21: wake(); break;
            case 22: log(pick(40), pick(5)); break;
            default: if (pick(6) == 0) { tear(); } break;
        }
        count(pick(7));
    }

    private void runTexts() {
        for (int i = 0; i < 25; i++) {
            order(pick(3) == 0 ? text() : spoil(text()));
            if (pick(2) == 0) {
                cancel(pick(12));
            }
        }
        for (int o = 0; o < 12; o++) {
            for (int f = 0; f < 5; f++) {
                field(o, f);
            }
            for (int i = 0; i < 15; i++) {
                day(o);
            }
        }
    }

    private int near(int far) {
        return Math.max(-1, Math.min(LAST + 1, model.count(0) + pick(2 * far) - far));
    }

    private int offset() {
        int[] some = {0, 60, -60, 30, 120, 1439, -1439, 1440, -1440, pick(2879) - 1439};
        return some[pick(some.length)];
    }

    private String value(int f) {
        switch (f) {
            case 0: return "" + pick(60);
            case 1: return "" + pick(24);
            case 2: return "" + (1 + pick(31));
            case 3: return pick(2) == 0 ? MONTHS[pick(12)] : "" + (1 + pick(12));
            case 4: return pick(2) == 0 ? WEEKDAYS[pick(7)] : "" + pick(8);
            default: return "" + (pick(2) == 0 ? 1900 + pick(300) : year());
        }
    }

    private int year() {
        return Math.max(1900, Math.min(2199, 1900 + home / 525960 + pick(3) - 1));
    }

    private String item(int f) {
        if (f == 2 && pick(3) == 0) {
            String[] some = {"L", "LW", "L-" + (1 + pick(30)), (1 + pick(31)) + "W", "1W", "31W", "28W"};
            return some[pick(some.length)];
        }
        if (f == 4 && pick(3) == 0) {
            return pick(2) == 0 ? value(4) + "L" : value(4) + "#" + (1 + pick(5));
        }
        String step = pick(3) == 0 ? "/" + (1 + pick(f == 0 ? 20 : 5)) : "";
        switch (pick(4)) {
            case 0: case 1: return "*" + step;
            case 2: return value(f) + step;
            default: return value(f) + "-" + value(f) + step;
        }
    }

    private String text() {
        if (pick(10) == 0) {
            String[] words = {"@hourly", "@daily", "@weekly", "@monthly", "@yearly"};
            return blanks() + words[pick(5)] + blanks();
        }
        StringBuilder s = new StringBuilder(blanks());
        int fields = pick(4) == 0 ? 6 : 5;
        for (int f = 0; f < fields; f++) {
            s.append(f > 0 ? " " + blanks() : "");
            s.append(f < 4 && f != 2 && pick(3) > 0 ? "*" : item(f));
            for (int i = 0; i < 3 && pick(3) == 0; i++) {
                s.append(',').append(item(f));
            }
        }
        s.append(blanks());
        return s.length() > 160 ? "* * * * *" : s.toString();
    }

    private String blanks() {
        return pick(8) == 0 ? " ".repeat(1 + pick(2)) : "";
    }

    private String spoil(String text) {
        String some = " ,-/*#LW0123456789@janfebmonsuxJ\u0000\u00ff~";
        StringBuilder s = new StringBuilder(text);
        for (int i = 0; i <= pick(2); i++) {
            int at = pick(s.length() + 1);
            char c = some.charAt(pick(some.length()));
            int how = pick(4);
            if (how == 0 && at < s.length()) {
                s.deleteCharAt(at);
            } else if (how == 1 && at < s.length()) {
                s.setCharAt(at, c);
            } else if (how == 2) {
                s.insert(at, c);
            } else if (pick(3) == 0) {
                s.setLength(at);
            }
        }
        return s.length() > 160 ? "*" : s.toString();
    }

    private void order(String text) {
        for (int from = 0; from < text.length(); from += 8) {
            String part = text.substring(from, Math.min(from + 8, text.length()));
            long bytes = random.nextLong();
            for (int i = 0; i < part.length(); i++) {
                bytes = bytes << 8 | part.charAt(i);
            }
            feed(bytes, part.length());
        }
        int z = pick(20) == 0 ? 4 : pick(4);
        int way = pick(40) == 0 ? 3 : pick(3);
        int[] graces = {0, 1, 10, 1000, 100000, pick(30) == 0 ? 100001 : 500};
        int grace = graces[pick(6)];
        int overlap = pick(40) == 0 ? -1 : pick(3);
        int[] lengths = {1, 2, 5, 7, 60, 3000, pick(30) == 0 ? 0 : 10000};
        int takes = lengths[pick(7)];
        both("order(" + z + ", " + way + ", " + grace + ", " + overlap + ", " + takes + ") of \"" + text + "\"",
            () -> x.order(z, way, grace, overlap, takes), () -> model.order(z, way, grace, overlap, takes));
        both("fault()", x::fault, model::fault);
    }

    private void feed(long bytes, int n) {
        both("feed(" + bytes + ", " + n + ")", () -> x.feed(bytes, n), () -> model.feed(bytes, n));
    }

    private void zone(int z, int offset) {
        both("zone(" + z + ", " + offset + ")", nothing(() -> x.zone(z, offset)), nothing(() -> model.zone(z, offset)));
    }

    private void change(int z, int minute, int offset) {
        both("change(" + z + ", " + minute + ", " + offset + ")",
            () -> x.change(z, minute, offset), () -> model.change(z, minute, offset));
    }

    private void civil(int z, int minute, int what) {
        both("civil(" + z + ", " + minute + ", " + what + ")",
            () -> x.civil(z, minute, what), () -> model.civil(z, minute, what));
    }

    private void minuteOf() {
        int m = Math.max(0, Math.min(LAST, near(3000)));
        int z = pick(4);
        int zd = pick(4);
        int year = pick(6) == 0 ? 1898 + pick(304) : model.civil(z, m, 0);
        int month = pick(20) == 0 ? pick(14) : model.civil(z, m, 1);
        int day = pick(20) == 0 ? pick(33) : model.civil(z, m, 2);
        int hour = pick(20) == 0 ? 24 : model.civil(z, m, 4);
        int minute = pick(20) == 0 ? -1 : model.civil(z, m, 5);
        both("minute(" + zd + ", " + year + ", " + month + ", " + day + ", " + hour + ", " + minute + ")",
            () -> x.minute(zd, year, month, day, hour, minute),
            () -> model.minute(zd, year, month, day, hour, minute));
    }

    private void cancel(int o) {
        both("cancel(" + o + ")", () -> x.cancel(o), () -> model.cancel(o));
    }

    private void told(int o, int what) {
        both("told(" + o + ", " + what + ")", () -> x.told(o, what), () -> model.told(o, what));
    }

    private void field(int o, int f) {
        both("field(" + o + ", " + f + ")", () -> x.field(o, f), () -> model.field(o, f));
    }

    private void day() {
        day(pick(12));
    }

    private void day(int o) {
        int how = pick(20) == 0 ? 4 : pick(4);
        int year = pick(3) == 0 ? 1898 + pick(304) : year();
        int month = pick(20) == 0 ? pick(15) : 1 + pick(12);
        int day = pick(3) == 0 ? 26 + pick(7) : pick(32);
        both("day(" + o + ", " + how + ", " + year + ", " + month + ", " + day + ")",
            () -> x.day(o, how, year, month, day), () -> model.day(o, how, year, month, day));
    }

    private void matches(int o, int minute) {
        both("matches(" + o + ", " + minute + ")", () -> x.matches(o, minute), () -> model.matches(o, minute));
    }

    private void next(int o, int minute, int days) {
        both("next(" + o + ", " + minute + ", " + days + ")",
            () -> x.next(o, minute, days), () -> model.next(o, minute, days));
    }

    private void before(int o, int minute, int days) {
        both("before(" + o + ", " + minute + ", " + days + ")",
            () -> x.before(o, minute, days), () -> model.before(o, minute, days));
    }

    private void between(int o, int minute, int more) {
        int last = Math.min(LAST + 1, minute + more);
        both("between(" + o + ", " + minute + ", " + last + ")",
            () -> x.between(o, minute, last), () -> model.between(o, minute, last));
    }

    private void put(int minute) {
        both("put(" + minute + ")", nothing(() -> x.put(minute)), nothing(() -> model.put(minute)));
    }

    private void pass(int n) {
        both("pass(" + n + ")", () -> x.pass(n), () -> model.pass(n));
    }

    private void sleep() {
        both("sleep()", nothing(x::sleep), nothing(model::sleep));
    }

    private void wake() {
        both("wake()", x::wake, model::wake);
    }

    private void log(int line, int what) {
        both("log(" + line + ", " + what + ")", () -> x.log(line, what), () -> model.log(line, what));
    }

    private void tear() {
        both("tear()", x::tear, model::tear);
    }

    private void count(int what) {
        both("count(" + what + ")", () -> x.count(what), () -> model.count(what));
    }
}
