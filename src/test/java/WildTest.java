import java.lang.management.ManagementFactory;
import java.util.NoSuchElementException;
import java.util.Random;

/**
 * Calls with any arguments in any state: kind and word alone throw, NoSuchElementException alone,
 * and no other call makes an object, so that a long run does not fill its room.
 */
final class WildTest {
    private static final int RUNS = 300;
    private static final String[] TEXTS = {
        "who a 1;who b 2;kind p opens asks;kind q grants 3;kind r keeps;may q p;may r q;may p q;twice;",
        "who a 6;who b 5;who c 4;kind p begins asks;kind q opens grants 1;kind r opens frees;may q p;may r q;ranks;",
        "who a 1;kind p begins;twice;", "kind p opens;", "who a 1;", "comb 1 2 3 4 5 6;",
        "a p;", "a p;b q;", "b p;a q;b r;", "any any;", "any p;a any;b q;a p;", "a p;b q;a r;a p;b p;", "by a",
        "not (by a or to b) and state>3", "place<3 or depth=1", "((((((", "; ; ;", "", "who", "a p", "\u00ff\u0000"};
    private static final int[] EDGES = {Integer.MIN_VALUE, -2, -1, 0, 1, 2, 3, 7, 8, 9, 10, 23, 24, 31, 32, 399, 400,
        401, 940, 941, Integer.MAX_VALUE};

    private final Random random;
    private final CombTable x = new CombTable();

    private WildTest(int seed) {
        random = new Random(seed);
    }

    private int any() {
        return random.nextInt(3) > 0 ? random.nextInt(6) - 1 : EDGES[random.nextInt(EDGES.length)];
    }

    private int byte4() {
        return random.nextInt(2) == 0 ? random.nextInt() : 0x61207020 + random.nextInt(4);
    }

    private void call() {
        switch (random.nextInt(45)) {
            case 0: x.feed(byte4(), byte4(), byte4(), byte4(), byte4()); break;
            case 1: x.end(any()); break;
            case 2: x.table(); break;
            case 3: x.fault(); break;
            case 4: x.rank(any()); break;
            case 5: x.say(any(), any()); break;
            case 6: x.wrong(any(), any()); break;
            case 7: x.may(any()); break;
            case 8: x.undo(); break;
            case 9: x.talk(); break;
            case 10: x.why(); break;
            case 11: x.threads(); break;
            case 12: x.thread(any(), any()); break;
            case 13: x.with(any(), any()); break;
            case 14: x.promised(any(), any(), any()); break;
            case 15: x.minutes(); break;
            case 16: x.wholes(any()); break;
            case 17: x.sure(any(), any()); break;
            case 18: x.hangs(); break;
            case 19: x.mend(); break;
            case 20: x.mended(); break;
            case 21: x.orders(); break;
            case 22: x.orderAt(any()); break;
            case 23: x.drawn(any(), random.nextInt()); break;
            case 24: x.spoke(any(), any()); break;
            case 25: x.road(any(), any(), any()); break;
            case 26: x.without(any(), any(), any(), any()); break;
            case 27: x.game(any(), any(), any(), any()); break;
            case 28: x.found(any()); break;
            case 29: x.unlike(any(), any()); break;
            case 30: x.sentence(); break;
            case 31: x.said(any()); break;
            case 32: x.image(any()); break;
            case 33: x.restore(any()); break;
            case 34: x.count(any()); break;
            case 35: x.say(random.nextInt(3), random.nextInt(3)); break;
            default: x.say(random.nextInt(2), random.nextInt(2)); break;
        }
    }

    private void text() {
        Due.feed(x, TEXTS[random.nextInt(TEXTS.length)]);
        switch (random.nextInt(4)) {
            case 0: x.table(); break;
            case 1: x.talk(); break;
            case 2: x.minutes(); break;
            default: x.sentence(); break;
        }
    }

    private void throwing() {
        int t = any();
        int what = any();
        boolean hasWord = t >= 0 && t < x.count(6) && what >= 0 && what < 8;
        boolean hasKind = t >= 0 && t < x.count(1) && what >= 0 && what < 4;
        boolean thrown = false;
        try {
            x.word(t, what);
        } catch (NoSuchElementException e) {
            thrown = true;
        }
        Due.is("word(" + t + ", " + what + ") throws", !hasWord, thrown);
        thrown = false;
        try {
            x.kind(t, what);
        } catch (NoSuchElementException e) {
            thrown = true;
        }
        Due.is("kind(" + t + ", " + what + ") throws", !hasKind, thrown);
    }

    private void go() {
        for (int i = 0; i < 100; i++) {
            text();
            call();
            call();
            throwing();
        }
    }

    private static long allocated() {
        com.sun.management.ThreadMXBean threads = (com.sun.management.ThreadMXBean) ManagementFactory.getThreadMXBean();
        return threads.getThreadAllocatedBytes(Thread.currentThread().getId());
    }

    /** Some calls of each sort on one object: the reading of the counter itself makes a little. */
    private static void room() {
        String[] texts = {TEXTS[0], "a p;b p;a q;", "any any;a p;b q;", "by a or to b and (is p)"};
        CombTable warm = new CombTable();
        use(warm, texts);
        CombTable x = new CombTable();
        allocated();
        long before = allocated();
        for (int i = 0; i < 5; i++) {
            use(x, texts);
        }
        long made = allocated() - before;
        Due.is("bytes that calls made: " + made + " is little", 1, made < 30000 ? 1 : 0);
        before = allocated();
        CombTable last = new CombTable();
        made = allocated() - before;
        Due.is("bytes that a new object makes: " + made + " is little", 1, made < 60000 && last.count(3) == 1 ? 1 : 0);
    }

    private static void use(CombTable x, String[] texts) {
        Due.feed(x, texts[0]);
        x.table();
        Due.feed(x, texts[1]);
        x.talk();
        Due.feed(x, texts[2]);
        x.minutes();
        Due.feed(x, texts[3]);
        x.sentence();
        for (int by = 0; by < 3; by++) {
            x.wholes(by);
        }
        x.hangs();
        x.mend();
        x.orders();
        x.drawn(100, 5);
        x.road(102, 5, 6);
        x.game(1, 100, 5, 6);
        x.image(0);
        x.unlike(0, 6);
        x.said(CombTable.NONE);
        x.restore(0);
    }

    public static void main(String[] args) {
        for (int run = 0; run < RUNS; run++) {
            try {
                new WildTest(run).go();
            } catch (RuntimeException e) {
                e.printStackTrace(System.out);
                Due.is("run " + run + " throws " + e, 0, 1);
            }
        }
        room();
        Due.close("WildTest");
    }
}
