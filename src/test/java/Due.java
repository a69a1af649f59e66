import java.nio.charset.StandardCharsets;
import java.util.NoSuchElementException;

/** What the tests have in common: answers compared with those that are due, texts fed. */
final class Due {
    /** What tell() and word() answer here if the call throws NoSuchElementException. */
    static final int THROWS = -1000;

    private static int wrong = 0;
    private static int compared = 0;

    private Due() {
    }

    static void is(String call, long want, long got) {
        compared++;
        if (want != got) {
            wrong++;
            if (wrong <= 50) {
                System.out.println(call + " answered " + got + ", due is " + want);
            }
        }
    }

    static void is(String call, boolean want, boolean got) {
        is(call, want ? 1 : 0, got ? 1 : 0);
    }

    static void close(String test) {
        System.out.println(test + ": " + compared + " answers, " + wrong + " not as due");
        if (wrong > 0) {
            System.exit(1);
        }
    }

    /** The tape, which is empty ahead, holds this text then. */
    static void feed(CombTable x, String text) {
        byte[] bytes = text.getBytes(StandardCharsets.ISO_8859_1);
        for (int i = 0; i < bytes.length; i += 20) {
            int[] numbers = new int[5];
            for (int j = 0; j < 20; j++) {
                int b = i + j < bytes.length ? bytes[i + j] & 255 : 'x';
                numbers[j / 4] = numbers[j / 4] << 8 | b;
            }
            x.feed(numbers[0], numbers[1], numbers[2], numbers[3], numbers[4]);
        }
        x.end(bytes.length);
    }

    static int table(CombTable x, String text) {
        feed(x, text);
        return x.table();
    }

    static int talk(CombTable x, String text) {
        feed(x, text);
        return x.talk();
    }

    static int minutes(CombTable x, String text) {
        feed(x, text);
        return x.minutes();
    }

    static int sentence(CombTable x, String text) {
        feed(x, text);
        return x.sentence();
    }

    static CombTable at(String text) {
        CombTable x = new CombTable();
        if (table(x, text) < 0) {
            is("table of " + text, 0, -1);
        }
        return x;
    }

    static int kind(CombTable x, int k, int what) {
        try {
            return x.kind(k, what);
        } catch (NoSuchElementException e) {
            return THROWS;
        }
    }

    static int word(CombTable x, int t, int what) {
        try {
            return x.word(t, what);
        } catch (NoSuchElementException e) {
            return THROWS;
        }
    }
}
