/** What Terms 2 names as boundaries: the TALK, THREADS, PROMISES, WRONG, the TALK's text. */
final class BoundsOfTalks {
    private static final int NONE = CombTable.NONE;
    private static final int A = 0;
    private static final int B = 1;
    private static final int C = 2;
    private static final int ASK = 0;
    private static final int YES = 1;
    private static final int NO = 2;
    private static final int DID = 3;
    private static final int LIE = 4;
    private static final int GO = 5;
    private static final int HM = 6;
    private static final String CHAIN = "who a 1;who b 1;kind p opens;may p p;comb 1;";
    private static final String ALONE = "who a 1;kind p begins;twice;";

    private BoundsOfTalks() {
    }

    /** A TABLE with each thing that a KIND may do; hm begins, so that it may be SAID at any time. */
    static String deal(int n, String comb) {
        return "who a 1;who b 1;who c 1;kind ask opens asks;kind yes grants " + n + ";kind no refuses;kind did keeps;"
            + "kind lie breaks;kind go frees;kind hm begins;may yes ask;may no ask;may did yes;may lie yes;"
            + "may go yes;twice;comb " + comb + ";";
    }

    private static void say(CombTable x, int who, int kind, int times) {
        for (int i = 0; i < times; i++) {
            Bound.first("say(" + who + ", " + kind + ")", 0, x.say(who, kind));
        }
    }

    private static void atMost() {
        Bound.of("Terms 2", "A TALK is a row of WORDS SAID (400 at most), numbered from 0");
        CombTable x = Due.at(ALONE);
        Bound.first("drawn", 398, x.drawn(398, 1));
        Bound.in("the 399th", 0, x.say(A, 0));
        Bound.at("the 400th", 0, x.say(A, 0));
        Bound.beyond("the 401st", NONE, x.say(A, 0));
        Bound.at("WORDS", 400, x.count(6));
        Bound.at("the first is 0", A, Due.word(x, 0, 0));
        Bound.at("the last is 399", A, Due.word(x, 399, 0));
        Bound.beyond("there is no 400", Due.THROWS, Due.word(x, 400, 0));
        Bound.in("the last undone", 399, x.undo());
        Bound.at("the 400th again", 0, x.say(A, 0));
    }

    private static void howFarBack() {
        Bound.of("Terms 2", "WORD t ANSWERS WORD t - K, if there is one, and its KIND does not 'begin'; else none.");
        for (int k = 1; k <= 6; k++) {
            CombTable x = Due.at("who a 1;who b 1;kind p opens;kind q begins;may p p;twice;comb " + k + ";");
            for (int t = 0; t < k + 2; t++) {
                Bound.first("WORD " + t + ", K " + k, 0, x.say(t / k % 2, 0));
            }
            Bound.in("WORD " + (k - 1) + ", K " + k, NONE, Due.word(x, k - 1, 2));
            Bound.at("WORD " + k + ", K " + k, 0, Due.word(x, k, 2));
            Bound.beyond("WORD " + (k + 1) + ", K " + k, 1, Due.word(x, k + 1, 2));
            Bound.first("one that begins, K " + k, 0, x.say(A, 1));
            Bound.at("one that begins, K " + k, NONE, Due.word(x, k + 2, 2));
        }
    }

    private static void byTurns() {
        Bound.of("Terms 2", "those of 'comb' by turns: the first one for WORD 0, the next one for WORD 1, and so on, "
            + "round.");
        String people = "who a 6;who b 6;who c 6;who d 6;who e 6;who f 6;who g 6;who h 6;kind p opens;may p p;";
        CombTable x = Due.at(people + "comb 1 2 3 4 5 6;");
        int[] due = {NONE, NONE, NONE, NONE, NONE, NONE, 5, 5, 5, 5, 5, 5, 11, 11, 11};
        for (int t = 0; t < due.length; t++) {
            Bound.first("say WORD " + t, 0, x.say(t % 8, 0));
            Bound.at("six turns, WORD " + t, due[t], Due.word(x, t, 2));
        }
        CombTable y = Due.at(people + "comb 2 1;");
        int[] two = {NONE, 0, 0, 2, 2, 4};
        for (int t = 0; t < two.length; t++) {
            Bound.first("say WORD " + t, 0, y.say(t, 0));
            Bound.at("two turns, WORD " + t, two[t], Due.word(y, t, 2));
        }
        Bound.first("undo", 5, y.undo());
        Bound.first("undo", 4, y.undo());
        Bound.first("say WORD 4 again", 0, y.say(6, 0));
        Bound.at("its turn is that of its number", 2, Due.word(y, 4, 2));
    }

    private static void byRanks() {
        Bound.of("Terms 2", "K: by 'ranks' the RANK of who speaks");
        String table = "who a 1;who b 6;who c 2;kind p opens;may p p;twice;comb 3;";
        CombTable x = Due.at(table + "ranks;");
        int[] who = {C, A, B, C, A, B, B, B};
        int[] due = {NONE, 0, NONE, 1, 3, NONE, 0, 1};
        for (int t = 0; t < who.length; t++) {
            Bound.first("say WORD " + t, 0, x.say(who[t], 0));
            Bound.at("by ranks, WORD " + t, due[t], Due.word(x, t, 2));
        }
        CombTable y = Bound.at(table, "c p;a p;b p;a p;");
        Bound.beyond("without 'ranks', WORD 1", NONE, Due.word(y, 1, 2));
        Bound.beyond("without 'ranks', WORD 3", 0, Due.word(y, 3, 2));
    }

    private static void threads() {
        Bound.of("Terms 2", "A THREAD: a WORD that ANSWERS none begins one; others are of that of the one they ANSWER. "
            + "THREADS are numbered as they begin.");
        CombTable x = Due.at("who a 1;who b 1;kind p opens;kind q begins;may p p;may p q;comb 2;twice;");
        Bound.at("no WORDS", 0, x.threads());
        Bound.first("talk", 6, Due.talk(x, "a p;a p;b p;b q;a p;a p;"));
        Bound.at("threads", 3, x.threads());
        int[] due = {0, 1, 0, 2, 0, 2};
        for (int t = 0; t < due.length; t++) {
            Bound.at("THREAD of WORD " + t, due[t], Due.word(x, t, 3));
        }
        for (int size = 5; size >= 0; size--) {
            Bound.first("undo", size, x.undo());
            Bound.at("threads of " + size, size > 3 ? 3 : Math.min(size, 2), x.threads());
        }
    }

    private static void depths() {
        Bound.of("Terms 2", "DEPTH of a WORD: 0, if it ANSWERS none, else one more than that one's.");
        CombTable x = Due.at(CHAIN);
        Bound.first("drawn", 400, x.drawn(400, 7));
        Bound.at("DEPTH of WORD 0", 0, Due.word(x, 0, 4));
        Bound.in("DEPTH of WORD 1", 1, Due.word(x, 1, 4));
        Bound.at("DEPTH of WORD 399", 399, Due.word(x, 399, 4));
        Bound.at("one THREAD", 1, x.threads());
        CombTable y = Due.at(ALONE);
        Bound.first("drawn", 400, y.drawn(400, 7));
        CombTable z = Bound.at(CHAIN + "kind q begins;", "a p;b p;a p;");
        Bound.first("undo", 2, z.undo());
        Bound.first("undo", 1, z.undo());
        Bound.first("say", 0, z.say(B, 1));
        Bound.at("DEPTH of one that begins where another one ANSWERED", 0, Due.word(z, 1, 4));
        Bound.at("DEPTH of WORD 399 that begins", 0, Due.word(y, 399, 4));
        Bound.at("its THREAD", 399, Due.word(y, 399, 3));
        Bound.at("400 THREADS", 400, y.threads());
    }

    private static void asked() {
        Bound.of("Terms 2", "ASKED: a WORD that asks is open; granted, refused by a WORD that does so and ANSWERS it.");
        CombTable x = Bound.at(deal(5, "1 1 1 2"), "a ask;");
        Bound.at("open", 1, Due.word(x, 0, 5));
        say(x, B, HM, 1);
        Bound.in("by a WORD that does not", 1, Due.word(x, 0, 5));
        Bound.first("undo", 1, x.undo());
        say(x, B, YES, 1);
        Bound.at("granted", 2, Due.word(x, 0, 5));
        Bound.first("undo", 1, x.undo());
        Bound.at("open again", 1, Due.word(x, 0, 5));
        say(x, B, NO, 1);
        Bound.at("refused", 3, Due.word(x, 0, 5));
        Bound.first("undo", 1, x.undo());
        Bound.at("open again", 1, Due.word(x, 0, 5));
        CombTable two = Bound.at(deal(5, "1 2 2"), "a ask;b ask;c yes;");
        Bound.at("the one it ANSWERS", 2, Due.word(two, 0, 5));
        Bound.beyond("another one", 1, Due.word(two, 1, 5));
    }

    private static void promises() {
        Bound.of("Terms 2", "PROMISE: by a WORD that grants, its WHO promises to who asked; it is due: N WORDS later "
            + "at most.");
        int[] spans = {1, 2, 99};
        for (int n : spans) {
            CombTable x = Bound.at(deal(n, "1"), "c ask;b yes;");
            Bound.at("to who asked, N " + n, C, Due.word(x, 1, 6));
            Bound.at("due, N " + n, 1 + n, Due.word(x, 1, 7));
            Bound.at("of b to c, N " + n, 1, x.promised(B, C, 4));
            Bound.in("it is open, N " + n, 4, Due.word(x, 1, 5));
            Bound.beyond("who asked promises nothing, N " + n, NONE, Due.word(x, 0, 6));
            Bound.beyond("what is asked is not due, N " + n, NONE, Due.word(x, 0, 7));
        }
    }

    private static void endsOfPromises() {
        Bound.of("Terms 2", "It is open; kept, broken, freed by a WORD that does so and ANSWERS the one that grants;");
        int[] who = {B, B, A};
        int[] kind = {DID, LIE, GO};
        for (int i = 0; i < 3; i++) {
            CombTable x = Bound.at(deal(3, "1 1 1 2 3 4"), "a ask;b yes;");
            Bound.at("open", 4, Due.word(x, 1, 5));
            say(x, who[i], kind[i], 1);
            Bound.at("by KIND " + kind[i], 5 + i, Due.word(x, 1, 5));
            Bound.in("that one has no STATE", 0, Due.word(x, 2, 5));
            Bound.first("undo", 2, x.undo());
            Bound.at("open again", 4, Due.word(x, 1, 5));
            say(x, C, HM, 1);
            say(x, who[i], kind[i], 1);
            say(x, C, HM, 5);
            Bound.beyond("it stays when N WORDS have gone by", 5 + i, Due.word(x, 1, 5));
        }
    }

    private static void lapsed() {
        Bound.of("Terms 2", "LAPSED, if it is open and a WORD has been SAID that stands more than N behind it.");
        int[] spans = {1, 2, 7, 99};
        for (int n : spans) {
            CombTable x = Bound.at(deal(n, "1"), "a ask;b yes;");
            say(x, A, HM, n - 1);
            Bound.in("the last WORD stands N - 1 behind, N " + n, 4, Due.word(x, 1, 5));
            say(x, A, HM, 1);
            Bound.at("N behind, N " + n, 4, Due.word(x, 1, 5));
            say(x, A, HM, 1);
            Bound.beyond("N + 1 behind, N " + n, 8, Due.word(x, 1, 5));
            Bound.beyond("it was granted for all that", 2, Due.word(x, 0, 5));
            Bound.first("undo", n + 2, x.undo());
            Bound.at("N behind again, N " + n, 4, Due.word(x, 1, 5));
        }
    }

    private static void leastWrong() {
        Bound.of("Terms 2", "WRONG, the least, of a next WORD:");
        String table = "who a 1;who b 1;who c 1;kind ask opens asks;kind yes grants 1;kind did keeps;kind go frees;"
            + "kind hm opens;may yes ask;may yes hm;may did yes;may go yes;may hm hm;may hm ask;may hm yes;";
        CombTable x = Due.at(table + "comb 1 2;");
        Bound.at("2, not 5", 2, x.wrong(A, 1));
        Bound.first("say", 0, x.say(A, 0));
        Bound.at("1, not 2", 1, x.wrong(A, 2));
        Bound.first("say", 0, x.say(B, 4));
        Bound.at("1, not 3", 1, x.wrong(B, 0));
        CombTable y = Bound.at(table + "comb 2;", "a hm;b hm;");
        Bound.at("3, not 4", 3, y.wrong(A, 0));
        Bound.at("3, not 5", 3, y.wrong(C, 2));
        Bound.at("4, not 5", 4, y.wrong(A, 1));
        Bound.in("5 alone", 5, y.wrong(C, 1));
        CombTable z = Bound.at(table + "comb 1 1 1 2;", "a ask;b yes;a hm;");
        Bound.at("5, not 6", 5, z.wrong(C, 2));
        Bound.in("5 alone", 5, z.wrong(B, 2));
        Bound.at("4, not 5", 4, z.wrong(B, 3));
        CombTable w = Bound.at(table + "comb 1;", "a ask;b yes;");
        Bound.in("6 alone", 6, w.wrong(C, 2));
        Bound.in("6 alone", 6, w.wrong(C, 3));
        Bound.at("1, not 4", 1, w.wrong(B, 3));
        Bound.in("none", 0, w.wrong(A, 3));
    }

    private static void wrongOne() {
        Bound.of("Terms 2", "1 the WHO SAID the WORD ahead (not with 'twice')");
        String table = "who a 1;who b 1;kind p begins;";
        CombTable x = Due.at(table);
        Bound.in("no WORD ahead", 0, x.say(A, 0));
        Bound.at("the WORD ahead", 1, x.say(A, 0));
        Bound.in("another one's", 0, x.say(B, 0));
        Bound.beyond("two WORDS ahead", 0, x.say(A, 0));
        Bound.at("the WORD ahead", 1, x.say(A, 0));
        CombTable y = Due.at(table + "twice;");
        Bound.in("twice", 0, y.say(A, 0));
        Bound.at("twice", 0, y.say(A, 0));
    }

    private static void wrongTwo() {
        Bound.of("Terms 2", "2 it ANSWERS none, and its KIND neither opens nor begins");
        CombTable x = Due.at("who a 1;who b 1;who c 1;kind p opens;kind q begins;kind r;may r p;may r q;comb 2;");
        Bound.at("WORD 0, neither", 2, x.wrong(A, 2));
        Bound.in("WORD 0, opens", 0, x.wrong(A, 0));
        Bound.in("WORD 0, begins", 0, x.say(A, 1));
        Bound.at("WORD 1, neither", 2, x.wrong(B, 2));
        Bound.in("WORD 1, opens", 0, x.say(B, 0));
        Bound.beyond("WORD 2 ANSWERS one", 0, x.say(C, 2));
    }

    private static void wrongThree() {
        Bound.of("Terms 2", "3 its KIND may not answer that one's");
        CombTable x = Bound.at("who a 1;who b 1;kind p opens;kind q opens;kind r begins;may p p;may q p;comb 1;",
            "a p;");
        Bound.in("p may answer p", 0, x.wrong(B, 0));
        Bound.in("q may answer p", 0, x.say(B, 1));
        Bound.at("p may not answer q", 3, x.wrong(A, 0));
        Bound.at("nor q itself", 3, x.wrong(A, 1));
        Bound.beyond("r ANSWERS none", 0, x.wrong(A, 2));
        CombTable last = Due.at(BoundsOfCalls.tenKinds("opens", "comb 1;may t t;"));
        Bound.first("say", 0, last.say(A, 9));
        Bound.at("the last KIND may", 0, last.wrong(B, 9));
        Bound.beyond("the one ahead of it may not", 3, last.wrong(B, 8));
    }

    private static void wrongFour() {
        Bound.of("Terms 2", "4 it ANSWERS a WORD of its own WHO (unless it keeps or breaks)");
        CombTable x = Bound.at(deal(5, "1") + "may hm hm;may ask yes;may ask ask;may yes yes;may no no;", "a ask;");
        Bound.at("asks", 4, x.wrong(A, ASK));
        Bound.in("another one asks", 0, x.wrong(B, ASK));
        Bound.at("grants", 4, x.wrong(A, YES));
        Bound.at("refuses", 4, x.wrong(A, NO));
        say(x, B, YES, 1);
        Bound.at("frees", 4, x.wrong(B, GO));
        Bound.in("another one frees", 0, x.wrong(A, GO));
        Bound.beyond("keeps", 0, x.wrong(B, DID));
        Bound.beyond("breaks", 0, x.wrong(B, LIE));
        CombTable y = Bound.at("who a 1;who b 1;kind p opens;may p p;comb 2;", "a p;b p;");
        Bound.at("does nothing", 4, y.wrong(A, 0));
    }

    private static void wrongFive() {
        Bound.of("Terms 2", "5 it grants or refuses what is not ASKED and open, keeps, breaks or frees what is no "
            + "PROMISE open then (if it stands more than N behind, it is none)");
        String turns = "1 1 1 2 3 4";
        String all = "may yes hm;may no hm;may did hm;may lie hm;may go hm;may did ask;may go ask;may yes yes;"
            + "may no yes;";
        CombTable x = Bound.at(deal(2, turns) + all, "a ask;");
        Bound.in("grants what is open", 0, x.wrong(B, YES));
        Bound.in("refuses what is open", 0, x.wrong(B, NO));
        Bound.at("keeps what is asked", 5, x.wrong(B, DID));
        Bound.at("frees what is asked", 5, x.wrong(B, GO));
        say(x, B, YES, 1);
        Bound.at("grants what grants", 5, x.wrong(A, YES));
        Bound.at("refuses what grants", 5, x.wrong(A, NO));
        int[] who = {B, B, A};
        int[] kind = {DID, LIE, GO};
        for (int i = 0; i < 3; i++) {
            Bound.in("N - 1 behind, KIND " + kind[i], 0, x.wrong(who[i], kind[i]));
        }
        say(x, C, HM, 1);
        for (int i = 0; i < 3; i++) {
            Bound.at("N behind, KIND " + kind[i], 0, x.wrong(who[i], kind[i]));
        }
        say(x, C, HM, 1);
        for (int i = 0; i < 3; i++) {
            Bound.beyond("N + 1 behind, KIND " + kind[i], 5, x.wrong(who[i], kind[i]));
        }
        Bound.beyond("it is not LAPSED yet", 4, Due.word(x, 1, 5));
        wrongFiveAgain(turns, all);
    }

    private static void wrongFiveAgain(String turns, String all) {
        CombTable x = Bound.at(deal(9, "1 1 2") + all, "a ask;b no;");
        Bound.at("grants what is refused", 5, x.wrong(B, YES));
        Bound.at("refuses what is refused", 5, x.wrong(B, NO));
        CombTable y = Bound.at(deal(9, "1 1 2") + all, "a ask;b yes;");
        Bound.at("grants what is granted", 5, y.wrong(C, YES));
        Bound.at("refuses what is granted", 5, y.wrong(C, NO));
        int[] who = {B, B, A};
        int[] kind = {DID, LIE, GO};
        for (int i = 0; i < 3; i++) {
            CombTable z = Bound.at(deal(9, turns), "a ask;b yes;");
            say(z, who[i], kind[i], 1);
            for (int j = 0; j < 3; j++) {
                Bound.at("KIND " + kind[j] + " behind KIND " + kind[i], 5, z.wrong(who[j], kind[j]));
            }
        }
        CombTable none = Bound.at(deal(9, "1") + all, "a hm;");
        for (int k = YES; k <= GO; k++) {
            Bound.at("KIND " + k + " to one that does nothing", 5, none.wrong(B, k));
        }
        String[] does = {"grants 9", "refuses", "keeps", "breaks", "frees"};
        for (String one : does) {
            Bound.at("ANSWERS none and " + one, 5, Due.at("who a 1;kind p begins " + one + ";").wrong(A, 0));
            Bound.at("ANSWERS none and " + one, 5, Due.at("who a 1;kind p opens " + one + ";").wrong(A, 0));
        }
        Bound.in("ANSWERS none and asks", 0, Due.at("who a 1;kind p begins asks;").wrong(A, 0));
    }

    private static void wrongSix() {
        Bound.of("Terms 2", "6 it keeps, breaks what another one promised, frees what was not promised to its WHO.");
        CombTable x = Bound.at(deal(5, "1"), "a ask;b yes;");
        Bound.in("keeps its own", 0, x.wrong(B, DID));
        Bound.in("breaks its own", 0, x.wrong(B, LIE));
        Bound.at("keeps another one's", 6, x.wrong(A, DID));
        Bound.at("breaks another one's", 6, x.wrong(A, LIE));
        Bound.at("keeps another one's", 6, x.wrong(C, DID));
        Bound.at("breaks another one's", 6, x.wrong(C, LIE));
        Bound.in("frees what was promised to it", 0, x.wrong(A, GO));
        Bound.at("frees what was not", 6, x.wrong(C, GO));
    }

    private static void talkBytes() {
        Bound.of("Terms 2", "A TALK is also a text of at most 900 bytes: { WHO KIND ; }:");
        Bound.at("no WORDS", "0", Bound.talk(CHAIN, ""));
        Bound.in("899 bytes", "1", Bound.talk(CHAIN, Bound.padded("a p;", 899)));
        Bound.at("900 bytes", "1", Bound.talk(CHAIN, Bound.padded("a p;", 900)));
        Bound.beyond("901 bytes", "FAULT 1 at 900", Bound.talk(CHAIN, Bound.padded("a p;", 901)));
        Bound.beyond("940 bytes", "FAULT 1 at 900", Bound.talk(CHAIN, Bound.padded("a p;", 940)));
        Bound.at("225 WORDS in 900 bytes", "225", Bound.talk(ALONE, Bound.times("a p;", 225)));
        Bound.beyond("226 WORDS", "FAULT 1 at 900", Bound.talk(ALONE, Bound.times("a p;", 226)));
        Bound.beyond("a WHO at 899", "FAULT 1 at 900", Bound.talk(CHAIN, Bound.padded("a p;", 899) + "b p;"));
        Bound.beyond("a KIND at 899", "FAULT 1 at 900", Bound.talk(CHAIN, Bound.padded("a p;b ", 899) + "p;"));
        Bound.beyond("a KIND at 900", "FAULT 1 at 900", Bound.talk(CHAIN, Bound.padded("a p;a ", 900) + "p;"));
        Bound.beyond("WRONG by a KIND at 899", "FAULT 5 at 4", Bound.talk(CHAIN, Bound.padded("a p;a ", 899) + "p;"));
        Bound.beyond("a KIND from 899 on", "FAULT 3 at 899", Bound.talk(CHAIN, Bound.padded("a p;a ", 899) + "pp;"));
        Bound.beyond("without ;", "FAULT 1 at 3", Bound.talk(CHAIN, "a p"));
        Bound.beyond("; twice", "FAULT 1 at 4", Bound.talk(CHAIN, "a p;;"));
        Bound.beyond("no KIND", "FAULT 1 at 2", Bound.talk(CHAIN, "a ;"));
        Bound.beyond("'any'", "FAULT 1 at 0", Bound.talk(CHAIN, "any p;"));
    }

    private static void noSuchName() {
        Bound.of("Terms 2", "FAULTS 1, 3 (no such NAME)");
        Bound.in("NAMES", "1", Bound.talk(CHAIN, "b p;"));
        Bound.beyond("no such WHO", "FAULT 3 at 0", Bound.talk(CHAIN, "c p;"));
        Bound.beyond("no such KIND", "FAULT 3 at 2", Bound.talk(CHAIN, "a q;"));
        Bound.beyond("a KIND for a WHO", "FAULT 3 at 0", Bound.talk(CHAIN, "p p;"));
        Bound.beyond("a WHO for a KIND", "FAULT 3 at 2", Bound.talk(CHAIN, "a b;"));
        Bound.beyond("no WHO at all", "FAULT 3 at 0", Bound.talk("", "a p;"));
    }

    /** Each WORD takes four bytes at least, so that no text has as many: the last that can come holds. */
    private static void tooManyWords() {
        Bound.of("Terms 2", "4 (a 401st WORD: at its WHO)");
        CombTable x = Due.at(ALONE);
        Bound.first("drawn", 400, x.drawn(400, 1));
        Bound.in("225 WORDS, though 400 are SAID", 225, Due.talk(x, Bound.times("a p;", 225)));
        Bound.in("of no such WHO", "FAULT 3 at 896", Bound.talk(ALONE, Bound.times("a p;", 224) + "b p;"));
        Bound.in("the 401st WORD SAID", 175, x.drawn(400, 1));
        Bound.beyond("the 401st WORD SAID", NONE, x.say(A, 0));
    }

    private static void wrongAtItsWho() {
        Bound.of("Terms 2", "5 WRONG (at its WHO, once its KIND is read).");
        Bound.at("its KIND is read", "FAULT 5 at 5", Bound.talk(CHAIN, "a p; a  p"));
        Bound.at("and what comes behind it", "FAULT 5 at 5", Bound.talk(CHAIN, "a p; a  p?"));
        Bound.in("its KIND is not", "FAULT 1 at 6", Bound.talk(CHAIN, "a p; a"));
        Bound.in("its KIND is no such NAME", "FAULT 3 at 7", Bound.talk(CHAIN, "a p; a z;"));
        Bound.in("its KIND is no TOKEN", "FAULT 1 at 7", Bound.talk(CHAIN, "a p; a p1;"));
        Bound.at("the first one that is WRONG", "FAULT 5 at 4", Bound.talk(CHAIN, "a p;a p;b p;b p;"));
        Bound.beyond("it is not WRONG", "2", Bound.talk(CHAIN, "a p; b p;"));
    }

    static void run() {
        atMost();
        howFarBack();
        byTurns();
        byRanks();
        threads();
        depths();
        asked();
        promises();
        endsOfPromises();
        lapsed();
        leastWrong();
        wrongOne();
        wrongTwo();
        wrongThree();
        wrongFour();
        wrongFive();
        wrongSix();
        talkBytes();
        noSuchName();
        tooManyWords();
        wrongAtItsWho();
    }
}
