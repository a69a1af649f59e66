/** What Terms 3 names as boundaries: TORN minutes, STATES, ROADS, GAMES, what is DRAWN, UNLIKE, SENTENCES. */
final class BoundsOfMinutes {
    private static final int NONE = CombTable.NONE;
    private static final int TOO_MANY = -2;
    private static final int A = 0;
    private static final int B = 1;
    private static final int C = 2;
    private static final String CHAIN = "who a 1;who b 1;kind p opens;may p p;comb 1;";
    private static final String ALONE = "who a 1;kind p begins;twice;";
    /** Two WORDS a turn, whatever is said: what b grants LAPSES N + 1 WORDS later. */
    private static final String PAIR = "who a 1;who b 1;kind p opens asks;may p p;comb 1;kind q grants ";
    private static final String PAIR_MAY = ";may q p;may p q;";

    /** The WORD behind these six is the last one that may ANSWER the first one. */
    private static final String FARTHEST = "who a 1;who b 1;who c 6;kind p opens asks;kind q grants 9;kind v begins;"
        + "may q p;comb 6 1 1 1 1 1;";
    private static final String FAR_TALK = "a p;b v;a v;b v;a v;b v;";

    private BoundsOfMinutes() {
    }

    private static void minutesBytes() {
        Bound.of("Terms 3", "TORN minutes are a text of at most 300 bytes: { ( WHO | 'any' ) ( KIND | 'any' ) ; }");
        Bound.at("no WORDS", "0", Bound.minutes(CHAIN, ""));
        Bound.at("no WORDS in 300 bytes", "0", Bound.minutes(CHAIN, Bound.padded("", 300)));
        Bound.in("299 bytes", "1", Bound.minutes(CHAIN, Bound.padded("a p;", 299)));
        Bound.at("300 bytes", "1", Bound.minutes(CHAIN, Bound.padded("a p;", 300)));
        Bound.beyond("301 bytes", "FAULT 1 at 300", Bound.minutes(CHAIN, Bound.padded("a p;", 301)));
        Bound.beyond("940 bytes", "FAULT 1 at 300", Bound.minutes(CHAIN, Bound.padded("a p;", 940)));
        Bound.beyond("a WHO at 299", "FAULT 3 at 299", Bound.minutes(CHAIN, Bound.padded("a p;", 299) + "bb p;"));
        Bound.beyond("a WHO at 300", "FAULT 1 at 300", Bound.minutes(CHAIN, Bound.padded("a p;", 300) + "bb p;"));
        Bound.beyond("'any' at 299", "FAULT 1 at 300", Bound.minutes(CHAIN, Bound.padded("a p;", 299) + "any p;"));
        Bound.in("'any' for each", "2", Bound.minutes(CHAIN, "any p;a any;"));
        Bound.at("'any' for both", "1", Bound.minutes(CHAIN, "any any;"));
        Bound.beyond("'any' for three", "FAULT 1 at 8", Bound.minutes(CHAIN, "any any any;"));
        Bound.beyond("without ;", "FAULT 1 at 7", Bound.minutes(CHAIN, "any any"));
        Bound.beyond("no KIND", "FAULT 1 at 4", Bound.minutes(CHAIN, "any ;"));
        Bound.beyond("another WORD", "FAULT 1 at 0", Bound.minutes(CHAIN, "or p;"));
        Bound.in("a WORD may be WRONG", "2", Bound.minutes(CHAIN, "a p;a p;"));
    }

    private static void minutesFaults() {
        Bound.of("Terms 3", "24 WORDS, 8 'any' at most (FAULTS 1, 3, 4: a 25th WORD at its first TOKEN, "
            + "a ninth 'any' at it).");
        Bound.in("23 WORDS", "23", Bound.minutes(CHAIN, Bound.times("a p;", 23)));
        Bound.at("24 WORDS", "24", Bound.minutes(CHAIN, Bound.times("a p;", 24)));
        Bound.beyond("25 WORDS", "FAULT 4 at 96", Bound.minutes(CHAIN, Bound.times("a p;", 25)));
        Bound.beyond("a 25th WORD", "FAULT 4 at 97", Bound.minutes(CHAIN, Bound.times("a p;", 24) + " any"));
        Bound.in("7 'any'", "4", Bound.minutes(CHAIN, Bound.times("any any;", 3) + "a any;"));
        Bound.at("8 'any'", "4", Bound.minutes(CHAIN, Bound.times("any any;", 4)));
        Bound.at("8 'any' of KINDS", "8", Bound.minutes(CHAIN, Bound.times("a any;", 8)));
        Bound.at("8 'any' of PEOPLE", "9", Bound.minutes(CHAIN, Bound.times("any p;", 8) + "a p;"));
        Bound.beyond("9 'any'", "FAULT 4 at 32", Bound.minutes(CHAIN, Bound.times("any any;", 4) + "any p;"));
        Bound.beyond("9 'any'", "FAULT 4 at 34", Bound.minutes(CHAIN, Bound.times("any any;", 4) + "a any;"));
        Bound.beyond("9 'any'", "FAULT 4 at 50", Bound.minutes(CHAIN, Bound.times("any p;", 7) + "a p;any any;"));
        Bound.beyond("a WHO not told", "FAULT 3 at 0", Bound.minutes(CHAIN, "z any;"));
        Bound.beyond("a KIND not told", "FAULT 3 at 4", Bound.minutes(CHAIN, "any z;"));
        Bound.beyond("a KIND for a WHO", "FAULT 3 at 0", Bound.minutes(CHAIN, "p any;"));
    }

    private static int wholes(String table, String minutes, int by) {
        CombTable x = Due.at(table);
        Bound.first("minutes of " + minutes, minutes.chars().filter(c -> c == ';').count(), Due.minutes(x, minutes));
        return x.wholes(by);
    }

    private static void wholesByNone() {
        Bound.of("Terms 3", "A WHOLE (from no WORDS on): each 'any' filled so that no WORD is WRONG. "
            + "WHOLES by 0: as they stand;");
        Bound.at("no 'any'", 1, wholes(CHAIN, "a p;b p;", 0));
        Bound.beyond("no 'any', WRONG", 0, wholes(CHAIN, "a p;a p;", 0));
        Bound.at("'any' WHO", 1, wholes(CHAIN, "a p;any p;", 0));
        Bound.at("'any' of all", 2, wholes(CHAIN, "any any;any any;", 0));
        Bound.at("8 'any'", 2, wholes(CHAIN, "any p;any p;any p;any p;any p;any p;any p;any p;", 0));
        CombTable x = Bound.at(CHAIN, "a p;b p;a p;");
        Bound.first("minutes", 1, Due.minutes(x, "a p;"));
        Bound.at("from no WORDS on", 1, x.wholes(0));
        Bound.at("the TALK stays", 3, x.count(6));
        Bound.at("'any' of nobody", 0, wholes("", "any any;", 0));
        Bound.at("'any' of no KINDS", 0, wholes("who a 1;", "a any;", 0));
    }

    private static void wholesByOne() {
        Bound.of("Terms 3", "by 1: with one of the WORDS left out (each one in turn; likewise filled, 'any' of it left "
            + "out with it; counted for each)");
        Bound.at("no WORDS", 0, wholes(CHAIN, "", 1));
        Bound.at("one WORD", 1, wholes(CHAIN, "a p;", 1));
        Bound.at("one WORD of 'any'", 1, wholes(CHAIN, "any any;", 1));
        Bound.in("counted for each", 2, wholes(CHAIN, "a p;a p;", 1));
        Bound.in("its 'any' is left out", 3, wholes(CHAIN, "any p;b p;", 1));
        Bound.in("what is left may be WRONG", 2, wholes(CHAIN, "a p;b p;a p;", 1));
        Bound.at("24 WORDS", 24, wholes(ALONE, Bound.times("a p;", 24), 1));
    }

    private static void wholesByTwo() {
        Bound.of("Terms 3", "by 2: with two neighbours exchanged (likewise).");
        Bound.at("no WORDS", 0, wholes(CHAIN, "", 2));
        Bound.at("one WORD", 0, wholes(CHAIN, "a p;", 2));
        Bound.in("two WORDS", 1, wholes(CHAIN, "a p;b p;", 2));
        Bound.in("two like ones", 1, wholes(ALONE, "a p;a p;", 2));
        Bound.in("two WORDS with 'any'", 1, wholes(CHAIN, "any p;b p;", 2));
        Bound.in("each two in turn", 2, wholes(ALONE, "a p;a p;a p;", 2));
        Bound.in("WRONG ones", 0, wholes(CHAIN, "a p;b p;a p;", 2));
        Bound.at("24 WORDS", 23, wholes(ALONE, Bound.times("a p;", 24), 2));
        CombTable x = Due.at("who a 1;who b 1;kind p opens;kind q;may q p;comb 1;");
        Bound.first("minutes", 2, Due.minutes(x, "b q;a p;"));
        Bound.in("as they stand", 0, x.wholes(0));
        Bound.at("exchanged", 1, x.wholes(2));
    }

    private static void states() {
        Bound.of("Terms 3", "STATE of a WORD: 0 neither, 1 ASKED open, 2 granted (of what asked), 3 refused, 4 PROMISE "
            + "open (of what grants), 5 kept, 6 broken, 7 freed, 8 LAPSED.");
        String[] talks = {"a hm;", "a ask;", "a ask;b yes;", "a ask;b no;", "a ask;b yes;", "a ask;b yes;b did;",
            "a ask;b yes;b lie;", "a ask;b yes;a go;", "a ask;b yes;a hm;a hm;"};
        int[] place = {0, 0, 0, 0, 1, 1, 1, 1, 1};
        for (int state = 0; state < 9; state++) {
            CombTable x = Bound.at(BoundsOfTalks.deal(1, "1"), talks[state]);
            Bound.at("STATE of WORD " + place[state] + " of " + talks[state], state, Due.word(x, place[state], 5));
            Bound.at("a ROAD of no WORDS to it", 0, x.road(place[state], state, 1));
        }
    }

    private static void roadLengths() {
        Bound.of("Terms 3", "ROAD to a STATE of WORD w in n (1 to 8) WORDS at most: the fewest WORDS SAID from now on "
            + "(0: it is so)");
        for (int n = 1; n <= 7; n++) {
            CombTable x = Bound.at(PAIR + n + PAIR_MAY, "a p;b q;");
            Bound.at("LAPSES in " + (n + 1), n + 1, x.road(1, 8, n + 1));
            Bound.in("LAPSES in " + (n + 1), n + 1, x.road(1, 8, 8));
            Bound.beyond("in fewer", NONE, x.road(1, 8, n));
        }
        CombTable x = Bound.at(PAIR + 8 + PAIR_MAY, "a p;b q;");
        Bound.beyond("LAPSES in 9", NONE, x.road(1, 8, 8));
        Bound.beyond("n is 0", -3, x.road(1, 8, 0));
        Bound.beyond("n is 9", -3, x.road(1, 8, 9));
        CombTable far = Bound.at(FARTHEST, FAR_TALK);
        Bound.at("six behind", 1, far.road(0, 2, 2));
        Bound.first("say", 0, far.say(A, 2));
        Bound.beyond("seven behind", NONE, far.road(0, 2, 2));
        Bound.at("it is so", 0, x.road(0, 2, 8));
        Bound.at("it is so", 0, x.road(1, 4, 1));
        Bound.at("nothing is SAID by it", 2, x.count(6));
    }

    private static void roadPlaces() {
        Bound.of("Terms 3", "behind which WORD w (there now or SAID then) has it");
        CombTable x = Bound.at(CHAIN, "a p;b p;");
        Bound.in("there now", 0, x.road(0, 0, 1));
        Bound.at("the last there now", 0, x.road(1, 0, 1));
        Bound.at("the first SAID then", 1, x.road(2, 0, 1));
        Bound.in("the last SAID then", 8, x.road(9, 0, 8));
        Bound.beyond("one SAID later", NONE, x.road(10, 0, 8));
        CombTable y = Due.at(CHAIN);
        Bound.first("drawn", 399, y.drawn(399, 3));
        Bound.at("the 400th", 1, y.road(399, 0, 8));
        Bound.first("drawn", 1, y.drawn(1, 3));
        Bound.at("it is so", 0, y.road(399, 0, 8));
        Bound.beyond("there is no 401st to change it", NONE, y.road(399, 1, 8));
    }

    private static void roadFirst() {
        Bound.of("Terms 3", "of like ones the first (WORD by WORD the lesser WHO, then the lesser KIND)");
        CombTable x = Due.at("who a 1;who b 1;kind p begins;kind q begins asks;kind r begins asks;twice;");
        Bound.first("road", 2, x.road(1, 1, 3));
        Bound.at("the least WHO and KIND", 0, x.found(0));
        Bound.at("the least KIND that asks", 1, x.found(1));
        CombTable y = Bound.at("who a 1;who b 1;who c 1;kind p opens asks;kind q refuses;kind r refuses;may q p;"
            + "may r p;comb 1;", "a p;");
        Bound.first("road", 1, y.road(0, 3, 2));
        Bound.at("not the own WHO", 16 * B + 1, y.found(0));
        Bound.first("without b", 1, y.without(B, 0, 3, 2));
        CombTable z = Bound.at("who a 1;who b 1;who c 1;kind r refuses;kind p opens asks;may r p;comb 1;", "b p;");
        Bound.first("road", 1, z.road(0, 3, 2));
        Bound.at("the lesser WHO ahead of the KIND", 0, z.found(0));
    }

    private static void gameLengths() {
        Bound.of("Terms 3", "the fewest WORDS (0: it is so) in which the one side can have it so that WORD w (there "
            + "now) has the STATE behind some WORD, whatever the others say.");
        for (int n = 1; n <= 7; n++) {
            CombTable x = Bound.at(PAIR + n + PAIR_MAY, "a p;b q;");
            Bound.at("LAPSES in " + (n + 1), n + 1, x.game(1 << A, 1, 8, n + 1));
            Bound.in("LAPSES in " + (n + 1), n + 1, x.game(1 << A, 1, 8, 8));
            Bound.beyond("in fewer", NONE, x.game(1 << A, 1, 8, n));
        }
        CombTable x = Bound.at(PAIR + 8 + PAIR_MAY, "a p;b q;");
        Bound.beyond("LAPSES in 9", NONE, x.game(1 << A, 1, 8, 8));
        CombTable far = Bound.at(FARTHEST, FAR_TALK);
        Bound.at("six behind", 1, far.game(1 << C, 0, 2, 2));
        Bound.first("say", 0, far.say(A, 2));
        Bound.beyond("seven behind", NONE, far.game(1 << C, 0, 2, 2));
        Bound.at("it is so", 0, x.game(1 << A, 0, 2, 1));
        Bound.at("it is so", 0, x.game(1 << B, 1, 4, 8));
        Bound.at("there now", 0, x.game(1 << A, 1, 4, 1));
        Bound.beyond("not there now", -3, x.game(1 << A, 2, 0, 1));
        String keeps = "who a 1;who b 1;who c 1;kind p opens asks;kind q grants 2;kind v opens;kind s keeps;may q p;"
            + "may v v;may v q;may s q;comb 1 1 1 2;";
        CombTable y = Bound.at(keeps, "a p;b q;");
        Bound.in("b may keep it", NONE, y.game(1 << A | 1 << C, 1, 8, 4));
        Bound.in("c may say another one", NONE, y.game(1 << A, 1, 5, 4));
        Bound.at("together they can", 2, y.road(1, 5, 4));
        CombTable z = Bound.at(keeps.replace("who c 1;", ""), "a p;b q;");
        Bound.at("b alone must", 2, z.game(1 << A, 1, 5, 4));
    }

    private static void gameTurns() {
        Bound.of("Terms 3", "GAME: SAID by turns by one of the one side (bits, its turn first) and one of the others; "
            + "who has no WORD that is not WRONG ends it;");
        String table = "who a 1;who b 1;who c 1;kind p opens asks;kind q grants 1;kind v opens;may q p;may v q;comb 1;";
        CombTable x = Bound.at(table, "a p;");
        Bound.at("its turn first", 1, x.game(1 << B, 0, 2, 1));
        Bound.in("one of its PEOPLE", 1, x.game(1 << A | 1 << B, 0, 2, 1));
        Bound.in("one of its PEOPLE", 1, x.game(1 << B | 1 << C, 0, 2, 1));
        Bound.beyond("a may not ANSWER itself", NONE, x.game(1 << A, 0, 2, 5));
        CombTable y = Bound.at(table, "a p;b q;");
        Bound.at("the others have no WORD", NONE, y.game(1 << A, 1, 8, 4));
        CombTable z = Bound.at(table + "may v v;", "a p;b q;");
        Bound.beyond("they have one", 2, z.game(1 << A, 1, 8, 4));
        CombTable w = Bound.at(table.replace("may v q;", ""), "a p;b q;");
        Bound.at("the one side has no WORD", NONE, w.game(1 << A, 1, 8, 4));
    }

    private static void mended() {
        Bound.of("Terms 3", "MENDED minutes (without 'any', 14 WORDS at most): the fewest WORDS left out by which the "
            + "others, as they stand, are a TALK (from no WORDS on); of like ones the least set as bits.");
        String[] texts = {"", "a p;", "a p;b p;", "a p;a p;", "a p;a p;b p;", "b p;a p;a p;", "a p;a p;a p;",
            Bound.times("a p;b p;", 7), Bound.times("a p;", 13), Bound.times("a p;", 14)};
        int[] due = {0, 0, 0, 1, 1, 1, 2, 0, 12, 13};
        int[] bits = {0, 0, 0, 1, 1, 2, 3, 0, 0xfff, 0x1fff};
        for (int i = 0; i < texts.length; i++) {
            CombTable x = Bound.at(CHAIN, "b p;a p;");
            Bound.first("minutes", texts[i].length() / 4, Due.minutes(x, texts[i]));
            Bound.at("left out of " + texts[i], due[i], x.mend());
            Bound.at("which ones", bits[i], x.mended());
        }
        mendedTies();
        CombTable x = Due.at(CHAIN + "kind q;");
        Bound.first("minutes", 14, Due.minutes(x, Bound.times("a q;", 14)));
        Bound.at("all of 14", 14, x.mend());
        Bound.at("all of 14", 0x3fff, x.mended());
        Bound.first("minutes", 15, Due.minutes(x, Bound.times("a q;", 15)));
        Bound.beyond("15 WORDS", NONE, x.mend());
        Bound.first("minutes", 1, Due.minutes(x, "a any;"));
        Bound.beyond("'any'", NONE, x.mend());
        Bound.first("minutes", 14, Due.minutes(x, Bound.times("a q;", 13) + "any q;"));
        Bound.beyond("'any' in the last one", NONE, x.mend());
    }

    /** 1 and 2 are left out or 0 and 3; then 2 and 3 or 0 and 1. */
    private static void mendedTies() {
        String four = "who a 1;who b 1;who c 1;who d 1;kind k opens;kind l opens;kind m opens;kind n opens;comb 1;";
        String[] mays = {"may n k;may m l;", "may l k;may n m;"};
        int[] due = {6, 3};
        for (int i = 0; i < 2; i++) {
            CombTable x = Due.at(four + mays[i]);
            Bound.first("minutes", 4, Due.minutes(x, "a k;b l;c m;d n;"));
            Bound.first("left out by " + mays[i], 2, x.mend());
            Bound.at("the least set by " + mays[i], due[i], x.mended());
        }
    }

    private static void orders() {
        Bound.of("Terms 3", "ORDERS of minutes (without 'any', 7 WORDS at most): those of their places in which they "
            + "are a TALK; the first one: place by place the lesser.");
        int[] all = {1, 1, 2, 6, 24, 120, 720, 5040};
        for (int n = 0; n <= 7; n++) {
            CombTable x = Due.at(ALONE);
            Bound.first("minutes", n, Due.minutes(x, Bound.times("a p;", n)));
            Bound.at("all ORDERS of " + n, all[n], x.orders());
            Bound.at("the last place of the first", n - 1, x.orderAt(n - 1));
        }
        CombTable x = Bound.at(CHAIN, "b p;");
        Bound.first("minutes", 3, Due.minutes(x, "a p;a p;b p;"));
        Bound.in("two of six, from no WORDS on", 2, x.orders());
        Bound.at("place by place the lesser", 0, x.orderAt(0));
        Bound.at("place by place the lesser", 2, x.orderAt(1));
        Bound.at("place by place the lesser", 1, x.orderAt(2));
        Bound.first("minutes", 8, Due.minutes(x, Bound.times("a p;b p;", 4)));
        Bound.beyond("8 WORDS", NONE, x.orders());
        Bound.first("minutes", 7, Due.minutes(x, Bound.times("a p;", 6) + "a any;"));
        Bound.beyond("'any'", NONE, x.orders());
    }

    private static void emptyMinutes() {
        Bound.of("Terms 3", "(Minutes without WORDS have one WHOLE by 0 and one of the ORDERS, of no WORDS; "
            + "hangs() is 0.)");
        String[] tables = {"", "who a 1;", "kind p;", CHAIN};
        for (String table : tables) {
            CombTable x = Due.at(table);
            Bound.first("minutes", 0, x.minutes());
            Bound.at("WHOLES by 0", 1, x.wholes(0));
            Bound.at("of no WORDS", NONE, x.sure(0, 0));
            Bound.at("one of the ORDERS", 1, x.orders());
            Bound.at("of no WORDS", NONE, x.orderAt(0));
            Bound.at("hangs", 0, x.hangs());
            Bound.at("nothing is left out", 0, x.mend());
        }
        CombTable x = Due.at(CHAIN);
        Bound.first("minutes", 1, Due.minutes(x, "a p;"));
        Bound.beyond("one WORD", 1, x.hangs());
    }

    /** 80 next WORDS, whatever has been SAID; x is worked out here in a long, cut to 32 bits. */
    private static void drawn() {
        Bound.of("Terms 3", "for each draw of n x becomes x * 1103515245 + 12345 (an int, wrapping), the draw is "
            + "(x >>> 8) % n");
        int[] seeds = {0, 1, -1, Integer.MAX_VALUE, Integer.MIN_VALUE, 12345};
        for (int i = 0; i < seeds.length; i++) {
            CombTable x = Due.at(BoundsOfCalls.eightyWords());
            Bound.first("drawn", 3, x.drawn(3, seeds[i]));
            long seed = seeds[i];
            for (int t = 0; t < 3; t++) {
                seed = seed * 1103515245L + 12345L & 0xffffffffL;
                long draw = (seed >> 8) % 80;
                Bound.at("WHO of draw " + t + " by " + seeds[i], draw / 10, Due.word(x, t, 0));
                Bound.at("KIND of draw " + t + " by " + seeds[i], draw % 10, Due.word(x, t, 1));
            }
        }
    }

    private static void drawnToTheEnd() {
        Bound.of("Terms 3", "of all next WORDS that are not WRONG (by WHO, then KIND) the one with the number of a "
            + "draw of all is SAID, and so on; it ends where there is none.");
        CombTable x = Due.at(ALONE);
        Bound.in("one next WORD", 1, x.drawn(1, 99));
        Bound.at("that one", A, Due.word(x, 0, 0));
        Bound.at("none", 0, new CombTable().drawn(1, 99));
        CombTable y = Due.at("who a 1;who b 1;kind p opens;");
        Bound.in("two, then none", 2, y.drawn(2, 99));
        Bound.at("none", 0, y.drawn(1, 99));
        CombTable z = Due.at("who a 1;who b 1;kind p opens;");
        Bound.at("it ends", 2, z.drawn(3, 99));
        CombTable w = Due.at("who a 1;kind p;kind q begins;kind r begins;kind s;twice;");
        Bound.first("drawn", 100, w.drawn(100, 99));
        Bound.at("WRONG ones are none", 100, w.spoke(A, 1) + w.spoke(A, 2));
        Bound.in("each of both", 1, w.spoke(A, 1) > 0 && w.spoke(A, 2) > 0 ? 1 : 0);
    }

    private static int unlike(String table, String other, int n) {
        CombTable x = Due.at(other);
        Bound.first("image", 1, x.image(0) ? 1 : 0);
        Due.table(x, table);
        return x.unlike(0, n);
    }

    private static void unlikes() {
        Bound.of("Terms 3", "UNLIKE to another TABLE to n (1 to 6) WORDS: the shortest TALK (from no WORDS on, of WHO "
            + "and KIND by their numbers) that the one has and the other has not;");
        String row = "who a 1;who b 1;kind p opens;may p p;comb ";
        String[] combs = {"1 1 1 2 1 1;", "1 1 1 1 2 1;", "1 1 1 1 1 2;", "2 1 1 1 1 1;"};
        for (int i = 0; i < 4; i++) {
            int n = 4 + i;
            if (n <= 6) {
                Bound.at("the last of " + n, n, unlike(CHAIN, row + combs[i], n));
                Bound.at("the other way round", n, unlike(row + combs[i], CHAIN, n));
                Bound.in("the last of " + n, n, unlike(CHAIN, row + combs[i], 6));
            }
            Bound.beyond("the last of " + n + " in fewer", 0, unlike(CHAIN, row + combs[i], n - 1));
        }
        Bound.at("the first WORD", 1, unlike(CHAIN, "who a 1;kind p opens;", 1));
        Bound.at("the second WORD", 2, unlike(CHAIN, CHAIN + "twice;kind q;may q p;", 2));
        Bound.beyond("n is 0", -3, unlike(CHAIN, CHAIN, 0));
        Bound.beyond("n is 7", -3, unlike(CHAIN, CHAIN, 7));
        Bound.at("NAMES do not matter", 0, unlike(CHAIN, "who x 1;who y 1;kind z opens;may z z;comb 1 1;", 6));
        Bound.at("both are empty", 0, unlike("", "", 6));
        Bound.at("one is empty", 1, unlike("", CHAIN, 6));
        Bound.at("one is empty", 1, unlike(CHAIN, "", 6));
    }

    private static void unlikeFirst() {
        Bound.of("Terms 3", "of like ones the first (WORD by WORD: WHO, KIND).");
        CombTable x = Due.at("who a 1;who b 1;who c 1;kind p begins;kind q;kind r;");
        x.image(0);
        Due.table(x, "who a 1;who b 1;who c 1;kind p begins;kind q begins;kind r begins;");
        Bound.first("unlike", 1, x.unlike(0, 2));
        Bound.at("the least", 1, x.found(0));
        Due.table(x, "who a 1;who b 1;who c 1;kind p begins;kind q;kind r;twice;");
        Bound.first("unlike", 2, x.unlike(0, 2));
        Bound.at("the least WHO and KIND", 0, x.found(0));
        Bound.at("the same again", 0, x.found(1));
    }

    private static String table(int people, int kinds) {
        StringBuilder text = new StringBuilder("twice;");
        for (int i = 0; i < people; i++) {
            text.append("who ").append((char) ('a' + i)).append(" 1;");
        }
        for (int i = 0; i < kinds; i++) {
            text.append("kind ").append((char) ('k' + i)).append(" begins;");
        }
        return text.toString();
    }

    private static CombTable torn(int people, int kinds, int whos, int sorts) {
        CombTable x = Due.at(table(people, kinds));
        int both = Math.min(whos, sorts);
        String text = Bound.times("any any;", both) + Bound.times("any k;", whos - both)
            + Bound.times("a any;", sorts - both);
        Bound.first("minutes of " + text, Math.max(whos, sorts), Due.minutes(x, text));
        return x;
    }

    private static void tooManyWays() {
        Bound.of("Terms 3", "ways to fill all 'any' of the minutes (WHO by PEOPLE, KIND by KINDS, multiplied) above "
            + "20000;");
        Bound.in("3 to the 9th", 19683, torn(3, 9, 1, 4).wholes(0));
        Bound.in("8 times 7 to the 4th", 19208, torn(8, 7, 1, 4).wholes(0));
        Bound.at("2 times 10 to the 4th", 20000, torn(2, 10, 1, 4).wholes(0));
        Bound.beyond("8 to the 4th times 5", TOO_MANY, torn(8, 5, 4, 1).wholes(0));
        Bound.beyond("4 to the 6th times 5", TOO_MANY, torn(4, 5, 6, 1).wholes(0));
        Bound.beyond("80 to the 4th", TOO_MANY, torn(8, 10, 4, 4).wholes(0));
        Bound.beyond("10 to the 8th", TOO_MANY, torn(8, 10, 0, 8).wholes(0));
        CombTable x = torn(2, 10, 1, 4);
        Bound.at("by 1, all 'any' of the minutes", 1000 + 3 * 2000, x.wholes(1));
        Bound.at("by 2, too", 60000, x.wholes(2));
        CombTable y = torn(1, 10, 0, 5);
        Bound.beyond("by 1, all 'any' of the minutes", TOO_MANY, y.wholes(1));
        Bound.beyond("by 2, too", TOO_MANY, y.wholes(2));
    }

    private static void tooManyTorn() {
        Bound.of("Terms 3", "of hangs() these times PEOPLE times KINDS above 100000;");
        Bound.in("3 times 5 to the 9th, no WORD without 'any'", 0, torn(5, 3, 0, 8).hangs());
        Bound.at("10 to the 5th", 0, torn(1, 10, 0, 4).hangs());
        Bound.at("2 to the 5th times 5 to the 5th", 0, torn(2, 5, 4, 4).hangs());
        Bound.beyond("6 times 7 to the 5th", TOO_MANY, torn(6, 7, 0, 4).hangs());
        Bound.beyond("8 times 5 to the 5th times 4", TOO_MANY, torn(4, 10, 4, 1).hangs());
        Bound.beyond("80 to the 5th", TOO_MANY, torn(8, 10, 4, 4).hangs());
        CombTable x = Due.at(table(1, 10));
        Bound.first("minutes", 5, Due.minutes(x, "a any;a any;a any;a any;a k;"));
        Bound.at("10 to the 5th with a WORD to be torn", 16, x.hangs());
    }

    private static void tooManyWords() {
        Bound.of("Terms 3", "of ROAD and GAME PEOPLE times KINDS, n times multiplied, above 300000;");
        int[][] most = {{8, 10}, {8, 10}, {8, 8}, {3, 7}, {2, 6}, {8, 1}, {3, 2}, {2, 2}};
        int[][] more = {null, null, {7, 10}, {4, 6}, {7, 2}, {3, 3}, {7, 1}, {5, 1}};
        for (int n = 1; n <= 8; n++) {
            int[] size = most[n - 1];
            CombTable x = Due.at(table(size[0], size[1]));
            Bound.in("road in " + n, NONE, x.road(399, 0, n));
            Bound.in("without in " + n, NONE, x.without(0, 399, 0, n));
            Bound.first("say", 0, x.say(0, 0));
            Bound.in("game in " + n, NONE, x.game(1, 0, 1, n));
            if (n > 2) {
                size = more[n - 1];
                CombTable y = Due.at(table(size[0], size[1]));
                Bound.first("say", 0, y.say(0, 0));
                Bound.beyond("road in " + n, TOO_MANY, y.road(0, 0, n));
                Bound.beyond("without in " + n, TOO_MANY, y.without(0, 0, 0, n));
                Bound.beyond("game in " + n, TOO_MANY, y.game(1, 0, 0, n));
                Bound.in("road in one less", 0, y.road(0, 0, n - 1));
            }
        }
        CombTable x = Due.at(table(8, 10));
        Bound.beyond("80 to the 8th", TOO_MANY, x.road(0, 0, 8));
        CombTable nobody = Due.at("kind p begins;");
        Bound.in("nobody", NONE, nobody.road(0, 0, 8));
    }

    private static void tooManyUnlike() {
        Bound.of("Terms 3", "of UNLIKE likewise, with the more PEOPLE and the more KINDS of both.");
        Bound.in("8 to the 6th", 1, unlike(table(8, 1), table(7, 1), 6));
        Bound.beyond("9 to the 6th", TOO_MANY, unlike(table(3, 3), table(3, 3), 6));
        Bound.in("12 to the 5th", 1, unlike(table(2, 5), table(2, 6), 5));
        Bound.beyond("14 to the 5th", TOO_MANY, unlike(table(7, 2), table(7, 2), 5));
        Bound.in("64 to the 3rd", 1, unlike(table(8, 1), table(1, 8), 3));
        Bound.beyond("70 to the 3rd, by both", TOO_MANY, unlike(table(7, 1), table(1, 10), 3));
        Bound.beyond("70 to the 3rd, by both", TOO_MANY, unlike(table(1, 10), table(7, 1), 3));
        Bound.in("80 twice", 1, unlike(table(8, 1), table(1, 10), 2));
        Bound.beyond("80 to the 6th, by the other", TOO_MANY, unlike("", table(8, 10), 6));
    }

    private static void sentenceBytes() {
        Bound.of("Terms 3", "A SENTENCE is a text of at most 200 bytes: COND: ALL { 'or' ALL }. ALL: ONE { 'and' ONE }.");
        Bound.beyond("nothing", "FAULT 1 at 0", Bound.sentence(CHAIN, ""));
        Bound.beyond("200 blanks", "FAULT 1 at 200", Bound.sentence(CHAIN, Bound.padded("", 200)));
        Bound.in("199 bytes", "1", Bound.sentence(CHAIN, Bound.padded("by a", 199)));
        Bound.at("200 bytes", "1", Bound.sentence(CHAIN, Bound.padded("by a", 200)));
        Bound.beyond("201 bytes", "FAULT 1 at 200", Bound.sentence(CHAIN, Bound.padded("by a", 201)));
        Bound.beyond("940 bytes", "FAULT 1 at 200", Bound.sentence(CHAIN, Bound.padded("by a", 940)));
        Bound.beyond("a NAME from 199 on", "FAULT 3 at 199", Bound.sentence(CHAIN, Bound.padded("by", 199) + "ab"));
        Bound.beyond("a NAME at 200", "FAULT 1 at 200", Bound.sentence(CHAIN, Bound.padded("by", 200) + "ab"));
        Bound.beyond("a NAME at 199", "FAULT 1 at 200", Bound.sentence(CHAIN, Bound.padded("by", 199) + "a "));
        Bound.at("a NAME at 199", "1", Bound.sentence(CHAIN, Bound.padded("by", 199) + "a"));
        Bound.beyond("no ONE behind 'or'", "FAULT 1 at 7", Bound.sentence(CHAIN, "by a or"));
        Bound.beyond("no ONE behind 'and'", "FAULT 1 at 8", Bound.sentence(CHAIN, "by a and"));
        Bound.beyond("no ONE ahead of 'or'", "FAULT 1 at 0", Bound.sentence(CHAIN, "or by a"));
        Bound.beyond("two ONES", "FAULT 1 at 5", Bound.sentence(CHAIN, "by a by b"));
        CombTable x = Bound.at(CHAIN, "a p;b p;a p;");
        Bound.first("sentence", 3, Due.sentence(x, "by a or by b and place=9"));
        Bound.at("'and' ahead of 'or'", 2, x.said(NONE));
        Bound.first("sentence", 3, Due.sentence(x, "place=9 and by b or by a"));
        Bound.at("'and' ahead of 'or'", 2, x.said(NONE));
        Bound.first("sentence", 4, Due.sentence(x, "(by a or by b) and place=9"));
        Bound.in("brackets", 0, x.said(NONE));
    }

    private static int said(CombTable x, String text) {
        Bound.first("sentence of " + text, 0, Due.sentence(x, text) > 0 ? 0 : 1);
        int bits = 0;
        for (int k = 0; k < x.said(NONE); k++) {
            bits |= 1 << x.said(k);
        }
        return bits;
    }

    private static void ones() {
        Bound.of("Terms 3", "ONE: 'not' ONE | ( COND ) | 'by' WHO | 'to' WHO (it ANSWERS one of that) | 'is' KIND | "
            + "( 'place' | 'thread' | 'depth' | 'state' ) SIGN NUMBER. SIGN: < = >.");
        CombTable x = Bound.at("who a 1;who b 1;kind p opens asks;kind q grants 1;kind v begins;may q p;comb 1;",
            "a p;b q;a v;b v;");
        String[] texts = {"by a", "by b", "to a", "to b", "is p", "is v", "not by a", "not not by a", "((by a))",
            "place<0", "place<1", "place=0", "place>0", "place=3", "place>2", "place>3", "place<999", "place=999",
            "thread<1", "thread=1", "thread>1", "depth<1", "depth=1", "depth>1", "state<2", "state=2", "state>2",
            "state=8", "state>8", "state=008", "not to a"};
        int[] due = {5, 10, 2, 0, 1, 12, 10, 5, 5, 0, 1, 1, 14, 8, 8, 0, 15, 0, 3, 4, 8, 13, 2, 0, 12, 1, 2, 2, 0, 2,
            13};
        for (int i = 0; i < texts.length; i++) {
            Bound.at("said by " + texts[i], due[i], said(x, texts[i]));
        }
        joined(x);
        Bound.beyond("a NUMBER of four digits", "FAULT 1 at 6", Bound.read(x, Due.sentence(x, "place<1000")));
        Bound.beyond("no NUMBER", "FAULT 1 at 6", Bound.read(x, Due.sentence(x, "place<a")));
        Bound.beyond("no SIGN", "FAULT 1 at 6", Bound.read(x, Due.sentence(x, "place 1")));
        Bound.beyond("no WHO", "FAULT 1 at 3", Bound.read(x, Due.sentence(x, "by 1")));
        Bound.beyond("no ONE", "FAULT 1 at 1", Bound.read(x, Due.sentence(x, "()")));
        Bound.beyond("it ends", "FAULT 1 at 5", Bound.read(x, Due.sentence(x, "(by a")));
        Bound.beyond("a bracket too many", "FAULT 1 at 4", Bound.read(x, Due.sentence(x, "by a)")));
    }

    /** Chains in which one ONE alone decides, at each end and in the middle. */
    private static void joined(CombTable x) {
        String[] texts = {"place=0 or place=8 or place=9", "place=9 or place=0 or place=8",
            "place=9 or place=8 or place=0", "place<8 and place<9 and place=0", "place=0 and place<8 and place<9",
            "place<9 and place=0 and place<8", "by a and (place=0)", "(place=0) and by a", "place=0 or (place=8)",
            "(place=9) or place=0", "by a and (place=9 or place=0)", "not (place=9 or place>0)",
            "not place=9 and place=0", "not (not by a or place=2)", "by b and by a or place=0",
            "place=0 or by b and by a", "place=9 and by a or place=9 and by b or place=0",
            "place=0" + Bound.times(" or place=9", 15), "place=0" + Bound.times(" and by a", 19)};
        for (String text : texts) {
            Bound.at("said by " + text, 1, said(x, text));
        }
    }

    private static void howManyOnes() {
        Bound.of("Terms 3", "20 ONES, 8 within one another. FAULTS: 1, 3 (no such NAME), 4 a 21st ONE, a ninth within "
            + "(at its first TOKEN).");
        String ones = "by a" + Bound.times(" or by a", 18);
        Bound.in("19 ONES", "19", Bound.sentence(CHAIN, ones));
        Bound.at("20 ONES", "20", Bound.sentence(CHAIN, ones + " and by b"));
        Bound.beyond("21 ONES", "FAULT 4 at 161", Bound.sentence(CHAIN, ones + " and by b or by b"));
        Bound.beyond("a 21st 'not'", "FAULT 4 at 161", Bound.sentence(CHAIN, ones + " and by b or not"));
        Bound.beyond("a 21st bracket", "FAULT 4 at 161", Bound.sentence(CHAIN, ones + " and by b or (zz"));
        Bound.beyond("in a bracket", "FAULT 4 at 152", Bound.sentence(CHAIN, ones + " or(by a)"));
        Bound.in("7 within", "7", Bound.sentence(CHAIN, Bound.times("not ", 6) + "by a"));
        Bound.at("8 within", "8", Bound.sentence(CHAIN, Bound.times("not ", 7) + "by a"));
        Bound.beyond("9 within", "FAULT 4 at 32", Bound.sentence(CHAIN, Bound.times("not ", 8) + "by a"));
        Bound.at("8 within", "8", Bound.sentence(CHAIN, "(((((((by a)))))))"));
        Bound.beyond("9 within", "FAULT 4 at 8", Bound.sentence(CHAIN, "((((((((by a))))))))"));
        Bound.beyond("9 brackets", "FAULT 4 at 8", Bound.sentence(CHAIN, "((((((((("));
        Bound.at("8 within, twice", "16", Bound.sentence(CHAIN, "(((((((by a))))))) and (((((((by b)))))))"));
        Bound.at("8 within, the last of some", "9", Bound.sentence(CHAIN, "(((((((by a or by b)))))))"));
        Bound.beyond("9 within, the last of some", "FAULT 4 at 15", Bound.sentence(CHAIN, "(((((((by a or(by b))))))))"));
        Bound.beyond("no such WHO", "FAULT 3 at 3", Bound.sentence(CHAIN, "by z"));
        Bound.beyond("no such WHO", "FAULT 3 at 3", Bound.sentence(CHAIN, "to p"));
        Bound.beyond("no such KIND", "FAULT 3 at 3", Bound.sentence(CHAIN, "is a"));
    }

    private static void saidOfWords() {
        Bound.of("Terms 3", "It is said of WORDS SAID.");
        CombTable x = Due.at(CHAIN);
        Bound.first("sentence", 2, Due.sentence(x, "not by b"));
        Bound.at("no WORDS", 0, x.said(NONE));
        Bound.first("say", 0, x.say(A, 0));
        Bound.in("one WORD", 1, x.said(NONE));
        Bound.first("undo", 0, x.undo());
        Bound.at("no WORDS again", 0, x.said(NONE));
        Bound.first("drawn", 400, x.drawn(400, 1));
        Bound.first("sentence", 1, Due.sentence(x, "place>398"));
        Bound.at("400 WORDS", 1, x.said(NONE));
        Bound.at("the last of them", 399, x.said(0));
    }

    private static void newTable() {
        Bound.of("Terms", "A new TABLE has no WORDS, no minutes, no SENTENCE.");
        CombTable x = Bound.at(CHAIN, "a p;b p;");
        Bound.first("minutes", 1, Due.minutes(x, "a p;"));
        Bound.first("sentence", 1, Due.sentence(x, "by a"));
        Bound.first("a FAULT", -1, Due.table(x, "zz"));
        Bound.in("a FAULT: WORDS", 2, x.count(6));
        Bound.in("a FAULT: minutes", 1, x.count(7));
        Bound.in("a FAULT: SENTENCE", 1, x.said(NONE));
        Bound.first("the same TABLE", 5, Due.table(x, CHAIN));
        Bound.at("WORDS", 0, x.count(6));
        Bound.at("THREADS", 0, x.threads());
        Bound.at("minutes", 0, x.count(7));
        Bound.at("minutes", 1, x.wholes(0));
        Bound.at("no SENTENCE", NONE, x.said(NONE));
        Bound.at("no SENTENCE", NONE, x.said(0));
        Bound.first("minutes", 1, Due.minutes(x, "any p;"));
        Bound.first("no LINES", 0, x.table());
        Bound.at("minutes without 'any'", 0, x.mend());
    }

    private static void throwing() {
        Bound.of("Terms", "A call that throws changes nothing.");
        CombTable x = Bound.at(CHAIN, "a p;b p;");
        Bound.first("a FAULT", -1, Due.sentence(x, "zz"));
        Bound.first("feed", 20, x.feed(1, 2, 3, 4, 5));
        Bound.first("road", 1, x.road(2, 0, 1));
        int[] ends = {-1, 2, 8, Integer.MIN_VALUE, Integer.MAX_VALUE};
        for (int end : ends) {
            Bound.beyond("word", Due.THROWS, Due.word(x, end, 0));
            Bound.beyond("word", Due.THROWS, Due.word(x, 0, end < 0 || end > 7 ? end : 8));
            Bound.beyond("kind", Due.THROWS, Due.kind(x, end, 0));
            Bound.beyond("kind", Due.THROWS, Due.kind(x, 0, end < 0 || end > 3 ? end : 4));
        }
        Bound.at("fault", 1, x.fault());
        Bound.at("tape", 20, x.count(8));
        Bound.at("WORDS", 2, x.count(6));
        Bound.at("found", 0, x.found(0));
        Bound.at("WHO", B, Due.word(x, 1, 0));
    }

    static void run() {
        minutesBytes();
        minutesFaults();
        wholesByNone();
        wholesByOne();
        wholesByTwo();
        states();
        roadLengths();
        roadPlaces();
        roadFirst();
        gameLengths();
        gameTurns();
        mended();
        orders();
        emptyMinutes();
        drawn();
        drawnToTheEnd();
        unlikes();
        unlikeFirst();
        tooManyWays();
        tooManyTorn();
        tooManyWords();
        tooManyUnlike();
        sentenceBytes();
        ones();
        howManyOnes();
        saidOfWords();
        newTable();
        throwing();
    }
}
