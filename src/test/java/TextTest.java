/** Promises 6, 7, 8 and 11: feed, order, fault, field; the texts and their faults. */
public final class TextTest {
    private static final Class<IndexOutOfBoundsException> INDEX = IndexOutOfBoundsException.class;
    private static final Class<IllegalArgumentException> ARGUMENT = IllegalArgumentException.class;
    private static final Class<IllegalStateException> STATE = IllegalStateException.class;

    public static void main(String[] args) {
        feed();
        orderRefuses();
        orderNumbers();
        faultsOfShape();
        faultsOfBounds();
        faultsOfStretches();
        latestFault();
        fields();
        words();
        fieldRefuses();
        Due.end("TextTest");
    }

    private static void feed() {
        CalendarOrders x = new CalendarOrders();
        Due.is("promise 6: highest byte first", x.feed(0x11_2a_20_2a_20_2aL, 5), 5);
        Due.is("promise 6: behind the tape", x.feed(0x20_2a_20_2aL, 4), 9);
        Due.is("promise 6: the text is * * * * *", x.order(0, 0, 0, 0, 1), 0);
        Due.is("promise 6: all eight bytes", x.feed(-1L, 8), 8);
        Due.refuses("promise 6: 0 bytes", ARGUMENT, () -> x.feed(1, 0));
        Due.refuses("promise 6: 9 bytes", ARGUMENT, () -> x.feed(1, 9));
        for (int n = 16; n <= 152; n += 8) {
            Due.is("promise 6: " + n + " bytes", x.feed(0, 8), n);
        }
        x.feed(0, 1);
        Due.refuses("promise 6: 161 bytes", STATE, () -> x.feed(0, 8));
        Due.refuses("promise 6: argument before state", ARGUMENT, () -> x.feed(0, 9));
        Due.is("promise 6: 160 bytes", x.feed(0, 7), 160);
        Due.refuses("promise 6: one more", STATE, () -> x.feed(0, 1));
        Due.is("promise 6: what throws changes nothing", x.count(4), 160);
    }

    private static void orderRefuses() {
        CalendarOrders x = new CalendarOrders();
        Due.text(x, "@daily");
        Due.refuses("promise 7: zone first", INDEX, () -> x.order(4, 9, -1, 9, 0));
        Due.refuses("promise 7: zone -1", INDEX, () -> x.order(-1, 0, 0, 0, 1));
        Due.refuses("promise 7: way -1", ARGUMENT, () -> x.order(0, -1, 0, 0, 1));
        Due.refuses("promise 7: way 3", ARGUMENT, () -> x.order(0, 3, 0, 0, 1));
        Due.refuses("promise 7: grace -1", ARGUMENT, () -> x.order(0, 0, -1, 0, 1));
        Due.refuses("promise 7: grace 100001", ARGUMENT, () -> x.order(0, 0, 100001, 0, 1));
        Due.refuses("promise 7: overlap -1", ARGUMENT, () -> x.order(0, 0, 0, -1, 1));
        Due.refuses("promise 7: overlap 3", ARGUMENT, () -> x.order(0, 0, 0, 3, 1));
        Due.refuses("promise 7: long 0", ARGUMENT, () -> x.order(0, 0, 0, 0, 0));
        Due.refuses("promise 7: long 10001", ARGUMENT, () -> x.order(0, 0, 0, 0, 10001));
        Due.is("promise 7: the tape stays", x.count(4), 6);
        Due.is("promise 7: the greatest of all", x.order(3, 2, 100000, 2, 10000), 0);
        Due.is("promise 7: the tape is empty", x.count(4), 0);
    }

    private static void orderNumbers() {
        CalendarOrders x = new CalendarOrders();
        for (int n = 0; n < 12; n++) {
            Due.is("promise 7: number " + n, Due.order(x, "@hourly"), n);
        }
        Due.text(x, "5-3");
        Due.refuses("promise 7: there are 12", STATE, () -> x.order(0, 0, 0, 0, 1));
        Due.refuses("promise 7: argument before state", ARGUMENT, () -> x.order(0, 0, 0, 0, 0));
        Due.is("promise 7: the tape stays with 12", x.count(4), 3);
        x.cancel(7);
        x.cancel(4);
        Due.is("promise 7: a fault", x.order(0, 0, 0, 0, 1), -4);
        Due.is("promise 7: the tape is empty behind a fault", x.count(4), 0);
        Due.is("promise 7: the least that is free", Due.order(x, "@hourly"), 4);
        Due.is("promise 7: the next one", Due.order(x, "@hourly"), 7);
    }

    private static void faultsOfShape() {
        Texts.faulty("", 0, 1);
        Texts.faulty("   ", 3, 1);
        Texts.faulty("*", 1, 1);
        Texts.faulty("* * * *", 7, 1);
        Texts.faulty("* * * *  ", 9, 1);
        Texts.faulty("* * * * * * *", 12, 1);
        Texts.faulty("* * * * *x", 9, 1);
        Texts.faulty("* * * * * 2000 @", 15, 1);
        Texts.faulty("\t* * * * *", 0, 1);
        Texts.faulty("* * * *\u00ff*", 7, 1);
        Texts.faulty("** * * * *", 1, 1);
        Texts.faulty("*5 * * * *", 1, 1);
        Texts.faulty("*-5 * * * *", 1, 1);
        Texts.faulty("*/ * * * *", 2, 1);
        Texts.faulty("*/* * * * *", 2, 1);
        Texts.faulty("5,, * * * *", 2, 1);
        Texts.faulty("5, * * * *", 2, 1);
        Texts.faulty("5-6-7 * * * *", 3, 1);
        Texts.faulty("5-*", 2, 1);
        Texts.faulty("5/2/3", 3, 1);
        Texts.faulty("5/2-7", 3, 1);
        Texts.faulty("-5 * * * *", 0, 1);
        Texts.faulty("12345 * * * *", 4, 1);
        Texts.faulty("00000 * * * *", 4, 1);
        Texts.faulty("0-00000 * * * *", 6, 1);
        Texts.faulty("*/00001 * * * *", 6, 1);
        Texts.faulty("jan * * * *", 0, 1);
        Texts.faulty("L * * * *", 0, 1);
        Texts.faulty("* 5W * * *", 3, 1);
        Texts.faulty("* * * L *", 6, 1);
        Texts.faulty("* * * 5#1 *", 7, 1);
        Texts.faulty("* * * mon *", 7, 1);
        Texts.faulty("* * * Jan *", 6, 1);
        Texts.faulty("* * * janu *", 9, 1);
        Texts.faulty("* * * jan5 *", 9, 1);
        Texts.faulty("* * * ju", 8, 1);
        Texts.faulty("* * * * tux", 10, 1);
        Texts.faulty("* * * * L", 8, 1);
        Texts.faulty("* * * * 5W", 9, 1);
        Texts.faulty("* * * * 5L#1", 10, 1);
        Texts.faulty("* * * * 1-5L", 11, 1);
        Texts.faulty("* * * * 5L/2", 10, 1);
        Texts.faulty("* * * * 5#", 10, 1);
        Texts.faulty("* * * * 5#x", 10, 1);
        Texts.faulty("* * * * 5#12", 11, 1);
        Texts.faulty("* * * * * jan", 10, 1);
        Texts.faulty("* * W * *", 4, 1);
        Texts.faulty("* * LL * *", 5, 1);
        Texts.faulty("* * LW-1 * *", 6, 1);
        Texts.faulty("* * L-1W * *", 7, 1);
        Texts.faulty("* * L/2 * *", 5, 1);
        Texts.faulty("* * L- * *", 6, 1);
        Texts.faulty("* * L-100 * *", 8, 1);
        Texts.faulty("* * 1-15W * *", 8, 1);
        Texts.faulty("* * 15WW * *", 7, 1);
        Texts.faulty("* * 15W/2 * *", 7, 1);
        Texts.faulty("* * 5L * *", 5, 1);
        Texts.faulty("@", 1, 1);
        Texts.faulty("@x", 1, 1);
        Texts.faulty("@hour", 5, 1);
        Texts.faulty("@dayly", 3, 1);
        Texts.faulty("@dailyx", 6, 1);
        Texts.faulty("@daily @daily", 7, 1);
        Texts.faulty("* @daily", 2, 1);
        Texts.faulty("@Daily", 1, 1);
    }

    private static void faultsOfBounds() {
        Texts.faulty("60 * * * *", 0, 2);
        Texts.faulty("60x", 0, 2);
        Texts.faulty("60", 0, 2);
        Texts.faulty("0,9999 * * * *", 2, 2);
        Texts.faulty("* 24 * * *", 2, 2);
        Texts.faulty("* * 0 * *", 4, 2);
        Texts.faulty("* * 32 * *", 4, 2);
        Texts.faulty("* * 0W * *", 4, 2);
        Texts.faulty("* * 32W * *", 4, 2);
        Texts.faulty("* * * 0 *", 6, 2);
        Texts.faulty("* * * 13 *", 6, 2);
        Texts.faulty("* * * * 8", 8, 2);
        Texts.faulty("* * * * 8L", 8, 2);
        Texts.faulty("* * * * 8#1", 8, 2);
        Texts.faulty("* * * * 5#0", 10, 2);
        Texts.faulty("* * * * 5#6", 10, 2);
        Texts.faulty("* * * * * 1899", 10, 2);
        Texts.faulty("* * * * * 2200", 10, 2);
        Texts.faulty("* * * * * 5", 10, 2);
        Texts.faulty("*/0 * * * *", 2, 2);
        Texts.faulty("*/1001 * * * *", 2, 2);
        Texts.faulty("5-9/0 * * * *", 4, 2);
        Texts.faulty("* * L-0 * *", 6, 2);
        Texts.faulty("* * L-31 * *", 6, 2);
        Texts.faulty("5-60 * * * *", 2, 2);
        Texts.faulty("70-60 * * * *", 0, 2);
        // Out of bounds and less at the same place: the lesser code.
        Texts.faulty("* * 5-0 * *", 6, 2);
        Texts.right("59 23 31 12 7 2199");
        Texts.right("0 0 1 1 0 1900");
        Texts.right("*/1 */1000 L-1 */0001 7#5");
        Texts.right("0059 * L-30 * sun#1");
        Texts.right("* * 0001W,31W,LW,L,L-05,1-2/3 dec sat,7L,monL");
    }

    private static void faultsOfStretches() {
        Texts.faulty("5-3 * * * *", 2, 3);
        Texts.faulty("5-3x", 2, 3);
        Texts.faulty("5-3/0 * * * *", 2, 3);
        Texts.faulty("* * * dec-jan *", 10, 3);
        Texts.faulty("* * * * fri-sun", 12, 3);
        Texts.faulty("* * * * 7-0", 10, 3);
        Texts.faulty("* * * * 7-sun", 10, 3);
        Texts.faulty("* * * * 7-6", 10, 3);
        Texts.faulty("* * * * * 2199-1900", 15, 3);
        Texts.right("5-5 * * jan-jan 0-7");
        Texts.right("* * * * 7-7");
    }

    private static void latestFault() {
        CalendarOrders x = new CalendarOrders();
        Due.is("promise 8: before", x.fault(), 0);
        Due.order(x, "5-3");
        Due.is("promise 8: 3", x.fault(), 3);
        Due.text(x, "@daily");
        Due.refuses("promise 8: a refused order", ARGUMENT, () -> x.order(0, 5, 0, 0, 1));
        Due.is("promise 8: a refused order had no text", x.fault(), 3);
        x.order(0, 0, 0, 0, 1);
        Due.is("promise 8: none", x.fault(), 0);
        x.order(0, 0, 0, 0, 1);
        Due.is("promise 8: an empty text", x.fault(), 1);
        x.cancel(0);
        Due.is("promise 8: other calls leave it", x.fault(), 1);
    }

    private static void fields() {
        long minutes = (1L << 60) - 1;
        Texts.field("* * * * *", 0, minutes);
        Texts.field("* * * * *", 1, (1L << 24) - 1);
        Texts.field("* * * * *", 2, (1L << 32) - 2);
        Texts.field("* * * * *", 3, (1L << 13) - 2);
        Texts.field("* * * * *", 4, 127L);
        Texts.field("5,7,5 * * * *", 0, Texts.bits(5, 7));
        Texts.field("*/25 * * * *", 0, Texts.bits(0, 25, 50));
        Texts.field("*/1000 * * * *", 0, Texts.bits(0));
        Texts.field("50/4 * * * *", 0, Texts.bits(50, 54, 58));
        Texts.field("10-20/3 * * * *", 0, Texts.bits(10, 13, 16, 19));
        Texts.field("3-5,58 * * * *", 0, Texts.bits(3, 4, 5, 58));
        Texts.field("* 22-23 * * *", 1, Texts.bits(22, 23));
        Texts.field("* * */10 * *", 2, Texts.bits(1, 11, 21, 31));
        Texts.field("* * 25/3 * *", 2, Texts.bits(25, 28, 31));
        Texts.field("* * L,LW,L-3,5W * *", 2, 0L);
        Texts.field("* * L,7,15W * *", 2, Texts.bits(7));
        Texts.field("* * * feb-apr/2,dec *", 3, Texts.bits(2, 4, 12));
        Texts.field("* * * 11/1 *", 3, Texts.bits(11, 12));
        Texts.field("* * * * 7", 4, Texts.bits(0));
        Texts.field("* * * * 5-7", 4, Texts.bits(0, 5, 6));
        Texts.field("* * * * 0-7", 4, 127L);
        Texts.field("* * * * 1-7/2", 4, Texts.bits(0, 1, 3, 5));
        Texts.field("* * * * 5/1", 4, Texts.bits(5, 6));
        Texts.field("* * * * 7/1", 4, Texts.bits(0));
        Texts.field("* * * * 7/2", 4, Texts.bits(0));
        Texts.field("* * * * */2", 4, Texts.bits(0, 2, 4, 6));
        Texts.field("* * * * */4", 4, Texts.bits(0, 4));
        Texts.field("* * * * sun,sat", 4, Texts.bits(0, 6));
        Texts.field("* * * * tue-thu", 4, Texts.bits(2, 3, 4));
        Texts.field("* * * * mon/2", 4, Texts.bits(1, 3, 5));
        Texts.field("* * * * 3L,2#1", 4, 0L);
        Texts.field("* * * * 3L,2#1,5", 4, Texts.bits(5));
    }

    private static void word(String text, String same) {
        CalendarOrders x = new CalendarOrders();
        Due.order(x, text);
        Due.order(x, same);
        for (int f = 0; f < 5; f++) {
            Due.is("field " + f + " of " + text, x.field(0, f), x.field(1, f));
        }
        Due.is("DAY of " + text + " begins with *", x.told(0, 9), x.told(1, 9));
        Due.is("WEEKDAY of " + text + " begins with *", x.told(0, 10), x.told(1, 10));
        Due.is("next of " + text, x.next(0, 1000000, 400), x.next(1, 1000000, 400));
    }

    private static void words() {
        word("@hourly", "0 * * * *");
        word("@daily", "0 0 * * *");
        word("  @weekly", "0 0 * * 0");
        word("@monthly  ", "0 0 1 * *");
        word(" @yearly ", "0 0 1 1 *");
        word("   1   2   3   4   5   2000   ", "1 2 3 4 5 2000");
    }

    private static void fieldRefuses() {
        CalendarOrders x = new CalendarOrders();
        Due.order(x, "@daily");
        Due.refuses("promise 11: order first", INDEX, () -> x.field(1, 9));
        Due.refuses("promise 11: order 12", INDEX, () -> x.field(12, 0));
        Due.refuses("promise 11: order -1", INDEX, () -> x.field(-1, 0));
        Due.refuses("promise 11: field -1", ARGUMENT, () -> x.field(0, -1));
        Due.refuses("promise 11: field 5", ARGUMENT, () -> x.field(0, 5));
    }
}
