import java.util.function.Supplier;

/** Counts the answers that are not as due, and feeds texts. */
final class Due {
    private static int wrong = 0;
    private static int asked = 0;
    private static String sentence = "";
    private static int askedBefore = 0;

    private Due() {
    }

    /**
     * From here on the answers are asked for one sentence of the document, and a wrong one is told with it.
     * A sentence for which nothing was asked counts as wrong: its test has been lost.
     */
    static void sentence(String where, String words) {
        closeSentence();
        sentence = where + ": \"" + words + "\": ";
        askedBefore = asked;
    }

    private static void closeSentence() {
        if (!sentence.isEmpty() && asked == askedBefore) {
            wrong++;
            System.out.println(sentence + "nothing was asked");
        }
    }

    static void is(String call, Object got, Object want) {
        asked++;
        if (!got.equals(want)) {
            wrong++;
            if (wrong <= 40) {
                System.out.println(sentence + call + " answered " + got + ", due is " + want);
            }
        }
    }

    static void refuses(String call, Class<? extends RuntimeException> want, Supplier<?> what) {
        is(call, answerOf(what), want.getSimpleName());
    }

    static void refuses(String call, Class<? extends RuntimeException> want, Runnable what) {
        refuses(call, want, answering(what));
    }

    /** The call is allowed, whatever it answers. */
    static void takes(String call, Supplier<?> what) {
        Object got = answerOf(what);
        is(call + " answered " + got, got.toString().endsWith("Exception"), false);
    }

    static void takes(String call, Runnable what) {
        takes(call, answering(what));
    }

    static Supplier<?> answering(Runnable what) {
        return () -> {
            what.run();
            return "nothing";
        };
    }

    static Object answerOf(Supplier<?> what) {
        try {
            return what.get();
        } catch (RuntimeException e) {
            return e.getClass().getSimpleName();
        }
    }

    static void text(CalendarOrders x, String text) {
        for (int from = 0; from < text.length(); from += 8) {
            String part = text.substring(from, Math.min(from + 8, text.length()));
            long bytes = 0;
            for (int i = 0; i < part.length(); i++) {
                bytes = bytes << 8 | part.charAt(i) & 255;
            }
            x.feed(bytes, part.length());
        }
    }

    /** A new order with a text, in zone 0, that makes up for nothing. */
    static int order(CalendarOrders x, String text) {
        text(x, text);
        return x.order(0, 0, 0, 0, 1);
    }

    static void end(String test) {
        closeSentence();
        System.out.println(test + ": " + asked + " answers, " + wrong + " not as due");
        if (wrong > 0 || asked == 0) {
            System.exit(1);
        }
    }
}
