import java.util.NoSuchElementException;

/** What the tests share: counting, texts onto the tape, and exceptions as answers. */
final class Check {
    static final long THROWN = Long.MIN_VALUE;
    private int good;
    private int bad;

    interface Call {
        long answer();
    }

    void same(String what, long want, long got) {
        if (want == got) {
            good++;
        } else {
            bad++;
            System.out.println(what + " answered " + got + ", due is " + want);
        }
    }

    void truth(String what, boolean want, boolean got) {
        same(what, want ? 1 : 0, got ? 1 : 0);
    }

    void throwing(String what, Call call) {
        same(what, THROWN, answerOf(call));
    }

    /** What a call answers; THROWN for the one exception that the document knows; any other ends the test. */
    static long answerOf(Call call) {
        try {
            return call.answer();
        } catch (NoSuchElementException e) {
            if (e.getClass() != NoSuchElementException.class) {
                throw e;
            }
            return THROWN;
        }
    }

    static byte[] bytes(String text) {
        byte[] all = new byte[text.length()];
        for (int i = 0; i < all.length; i++) {
            all[i] = (byte) text.charAt(i);
        }
        return all;
    }

    static int number(byte[] all, int at) {
        int number = 0;
        for (int i = at; i < at + 4; i++) {
            number = number << 8 | (i < all.length ? all[i] & 255 : 0);
        }
        return number;
    }

    /** Puts a text alone on the tape (one of over 920 bytes needs an empty tape's 940). */
    static void put(SoleraHouse x, String text) {
        x.end(0);
        byte[] all = bytes(text);
        for (int at = 0; at < all.length; at += 20) {
            x.feed(number(all, at), number(all, at + 4), number(all, at + 8), number(all, at + 12), number(all, at + 16));
        }
        x.end(all.length);
    }

    static SoleraHouse houseOf(String text) {
        SoleraHouse x = new SoleraHouse();
        put(x, text);
        if (x.house() < 0) {
            throw new IllegalArgumentException("no house: " + text);
        }
        return x;
    }

    void close(String name) {
        System.out.println(name + ": " + good + " answers as due, " + bad + " not");
        if (bad > 0 || good == 0) {
            System.exit(1);
        }
    }
}
