/** What the promises, each by its number, name as boundaries of their calls. */
final class BoundsOfCalls {
    private static final int NONE = CombTable.NONE;
    private static final int MIN = Integer.MIN_VALUE;
    private static final int MAX = Integer.MAX_VALUE;
    private static final int A = 0;
    private static final int B = 1;
    private static final int C = 2;
    private static final String CHAIN = "who a 1;who b 1;kind p opens;may p p;comb 1;";
    private static final String ALONE = "who a 1;kind p begins;twice;";
    private static final int[] OUTSIDE = {MIN, MIN + 1, -2, 400, 401, MAX - 1, MAX};

    private BoundsOfCalls() {
    }

    /** Two PEOPLE and ten KINDS alike, k to t, and what else is told of them. */
    static String tenKinds(String opening, String more) {
        StringBuilder text = new StringBuilder("who a 1;who b 1;");
        for (int i = 0; i < 10; i++) {
            text.append("kind ").append((char) ('k' + i)).append(' ').append(opening).append(';');
        }
        return text + more;
    }

    /** Eight PEOPLE and ten KINDS that all may be SAID at any time. */
    static String eightyWords() {
        return tenKinds("begins", "who c 1;who d 1;who e 1;who f 1;who g 1;who h 1;twice;");
    }

    /** a asks, b says hm, c grants it (N 4), a says hm, c keeps it, b asks: THREADS 0 2 4 and 1 3 5. */
    private static CombTable told() {
        return Bound.at("who a 1;who b 2;who c 3;kind ask opens asks;kind yes grants 4;kind no refuses;"
            + "kind did keeps;kind lie breaks;kind go frees;kind hm opens;may yes ask;may no ask;may did yes;"
            + "may lie yes;may go yes;may hm hm;may hm ask;may hm yes;may ask hm;",
            "a ask;b hm;c yes;a hm;c did;b ask;");
    }

    private static void lastCall() {
        Bound.of("What it is", "An object is used for at most 512 calls after it has been made");
        CombTable x = Due.at(eightyWords());
        for (int i = 0; i < 470; i++) {
            Bound.first("drawn", i < 400 ? 1 : 0, x.drawn(1, i));
        }
        for (int i = 0; i < 20; i++) {
            Bound.in("some call", 400, x.count(6));
        }
        int calls = 470 + 20 + (eightyWords().length() + 19) / 20 + 2;
        for (int i = calls; i < 511; i++) {
            Bound.in("call " + (i + 1), 0, x.say(0, 0) + 1);
        }
        Bound.at("the 512th call", 399, x.undo());
    }

    private static void newObject() {
        Bound.of("Promise 1", "An empty TABLE; an empty tape.");
        CombTable x = new CombTable();
        int[] counts = {0, 0, 0, 1, 0, 0, 0, 0, 0};
        for (int what = 0; what < counts.length; what++) {
            Bound.at("count(" + what + ")", counts[what], x.count(what));
        }
        Bound.at("rank", NONE, x.rank(0));
        Bound.at("kind", Due.THROWS, Due.kind(x, 0, 0));
        Bound.at("say", NONE, x.say(0, 0));
        Bound.at("wrong", NONE, x.wrong(0, 0));
        Bound.at("may", NONE, x.may(0));
        Bound.at("word", Due.THROWS, Due.word(x, 0, 0));
        Bound.at("thread", NONE, x.thread(0, NONE));
        Bound.at("promised", NONE, x.promised(0, 0, 0));
        Bound.at("spoke by any, of any", 0, x.spoke(NONE, NONE));
        Bound.at("spoke", NONE, x.spoke(0, NONE));
        Bound.at("road", NONE, x.road(0, 0, 8));
        Bound.at("without", -3, x.without(0, 0, 0, 8));
        Bound.at("game", -3, x.game(1, 0, 0, 8));
        Bound.at("drawn", 0, x.drawn(400, 1));
        Bound.at("the tape is a TABLE", 0, x.table());
        Bound.at("the tape is a TALK", 0, x.talk());
        Bound.at("the tape is minutes", 0, x.minutes());
        Bound.at("the tape is no SENTENCE", -1, x.sentence());
        Bound.at("one of the same", 0, new CombTable().feed(0, 0, 0, 0, 0) - 20);
    }

    private static void feed() {
        Bound.of("Promise 2", "Twenty bytes come behind the tape, of each number the highest first: how many it has; "
            + "NONE, and none come, if it would have more than 940.");
        CombTable x = new CombTable();
        Bound.at("the first twenty", 20, x.feed(0x77686f20, 0x6120363b, 0x77686f20, 0x6220353b, 0x7477696f));
        Bound.at("its last byte is changed", true, x.end(19));
        Bound.at("behind the tape", 39, x.feed(0x63653b20, 0x20202020, 0x20202020, 0x20202020, 0x2020207f));
        Bound.at("its last byte is left out", true, x.end(38));
        Bound.in("highest first", 3, x.table());
        Bound.at("RANK of a", 6, x.rank(0));
        Bound.at("RANK of b", 5, x.rank(1));
        for (int i = 1; i <= 46; i++) {
            Bound.in("feed " + i, 20 * i, x.feed(-1, 0, MIN, MAX, i));
        }
        Bound.at("940", 940, x.feed(0, 0, 0, 0, 0));
        Bound.beyond("960", NONE, x.feed(0, 0, 0, 0, 0));
        Bound.beyond("none come", 940, x.count(8));
        Bound.first("end", 1, x.end(921) ? 1 : 0);
        Bound.beyond("941", NONE, x.feed(0x3b3b3b3b, 0, 0, 0, 0));
        Bound.beyond("none come", 921, x.count(8));
        Bound.first("end", 1, x.end(920) ? 1 : 0);
        Bound.at("940", 940, x.feed(0, 0, 0, 0, 0));
        Bound.first("end", 1, x.end(919) ? 1 : 0);
        Bound.in("939", 939, x.feed(0, 0, 0, 0, 0));
        CombTable y = new CombTable();
        Due.feed(y, Bound.padded("who a 1;", 921));
        Bound.beyond("941", NONE, y.feed(0, 0, 0, 0, 0));
        Bound.first("end", 1, y.end(9) ? 1 : 0);
        Bound.at("what was there stays", 1, y.table());
    }

    private static void end() {
        Bound.of("Promise 3", "The tape has its first n bytes alone: true; false, if it has not so many, or n is "
            + "below 0.");
        CombTable x = new CombTable();
        Bound.at("none of none", true, x.end(0));
        Bound.beyond("one of none", false, x.end(1));
        Due.feed(x, "who a 1;who b 2;");
        Bound.at("all of them", true, x.end(16));
        Bound.beyond("one more", false, x.end(17));
        Bound.beyond("far more", false, x.end(MAX));
        Bound.beyond("below 0", false, x.end(-1));
        Bound.beyond("far below 0", false, x.end(MIN));
        Bound.at("the tape stays", 16, x.count(8));
        Bound.in("one less", true, x.end(15));
        Bound.in("its first", true, x.end(8));
        Bound.beyond("those behind are gone", false, x.end(9));
        Bound.at("the first LINE", 1, x.table());
        Bound.at("the tape is empty", false, x.end(1));
        Due.feed(x, "who a 1;");
        Bound.at("0", true, x.end(0));
        Bound.at("none", 0, x.count(8));
        Due.feed(x, Bound.padded("", 940));
        Bound.at("940", true, x.end(940));
        Bound.beyond("941", false, x.end(941));
    }

    private static void table() {
        Bound.of("Promise 4", "The tape (empty then, here and below, whatever is answered) is the TABLE now: how many "
            + "LINES; -1 less the place of a FAULT: the TABLE before stays.");
        CombTable x = new CombTable();
        Bound.at("no LINES", 0, Due.table(x, ""));
        Bound.in("two LINES", 2, Due.table(x, "who a 1;who b 2;"));
        Bound.at("the tape is empty then", 0, x.count(8));
        Bound.at("place 0", -1, Due.table(x, "?"));
        Bound.at("the tape is empty, here too", 0, x.count(8));
        Bound.at("place 900", -901, Due.table(x, Bound.padded("who c 1;", 940)));
        Bound.at("the TABLE before stays", 2, x.count(0));
        Bound.at("a FAULT behind LINES", -10, Due.table(x, "who c 5;?") - 1);
        Bound.at("the TABLE before stays", 1, x.rank(0));
        Bound.at("the tape was empty", 0, x.table());
        Bound.at("no PEOPLE now", 0, x.count(0));
        StringBuilder lines = new StringBuilder("comb 1;");
        for (int i = 0; i < 8; i++) {
            lines.append("who ").append((char) ('a' + i)).append(" 1;");
        }
        Bound.at("nine LINES", 9, Due.table(x, lines.toString()));
    }

    private static void fault() {
        Bound.of("Promise 5", "The kind of the FAULT of the latest table(), talk(), minutes() or sentence(); 0 without "
            + "one and ahead of any.");
        CombTable x = new CombTable();
        Bound.at("ahead of any", 0, x.fault());
        String[] tables = {"?", "who a 0;", "who a 1;who a 1;", "comb 1 1 1 1 1 1 1;"};
        for (int i = 0; i < 4; i++) {
            Due.table(x, tables[i]);
            Bound.at("table of " + tables[i], i + 1, x.fault());
        }
        Due.table(x, CHAIN);
        Bound.at("without one", 0, x.fault());
        Due.talk(x, "a p;a p;");
        Bound.at("of talk", 5, x.fault());
        Due.talk(x, "a p;");
        Bound.at("of talk without one", 0, x.fault());
        Due.minutes(x, Bound.times("a p;", 25));
        Bound.at("of minutes", 4, x.fault());
        x.minutes();
        Bound.at("of minutes without one", 0, x.fault());
        Due.sentence(x, "by z");
        Bound.at("of sentence", 3, x.fault());
        x.feed(0, 0, 0, 0, 0);
        x.say(0, 9);
        x.image(0);
        x.restore(0);
        Bound.in("other calls", 3, x.fault());
        x.end(0);
        x.table();
        Bound.at("of the latest", 0, x.fault());
    }

    private static void rank() {
        Bound.of("Promise 6", "RANK of a WHO; NONE: no such one.");
        CombTable x = Due.at("who a 1;who b 2;who c 3;who d 4;who e 5;who f 6;who g 5;who h 4;");
        int[] due = {1, 2, 3, 4, 5, 6, 5, 4};
        for (int who = 0; who < 8; who++) {
            Bound.at("WHO " + who, due[who], x.rank(who));
        }
        Bound.beyond("WHO 8", NONE, x.rank(8));
        Bound.beyond("WHO -1", NONE, x.rank(-1));
        Due.table(x, "who a 6;");
        Bound.beyond("a WHO of the TABLE before", NONE, x.rank(1));
        for (int who : OUTSIDE) {
            Bound.beyond("WHO " + who, NONE, x.rank(who));
        }
    }

    private static void kindTells() {
        Bound.of("Promise 7", "Of a KIND: 0 whether it opens (1), begins (2), neither (0), 1 what it does (0 nothing, "
            + "1 asks, 2 grants, 3 refuses, 4 keeps, 5 breaks, 6 frees)");
        String[] opening = {"", "opens", "begins"};
        String[] does = {"", "asks", "grants 9", "refuses", "keeps", "breaks", "frees"};
        for (int i = 0; i < 3; i++) {
            for (int j = 0; j < 7; j++) {
                CombTable x = Due.at("kind k;kind p " + opening[i] + " " + does[j] + ";");
                Bound.at("kind(1, 0) of " + opening[i] + " " + does[j], i, Due.kind(x, 1, 0));
                Bound.at("kind(1, 1) of " + opening[i] + " " + does[j], j, Due.kind(x, 1, 1));
            }
        }
    }

    private static void kind() {
        Bound.of("Promise 7", "2 its N (0), 3 KINDS that it may answer (bits). NoSuchElementException: no such ones.");
        CombTable x = Due.at(tenKinds("grants 99", "may k k;may k t;may t k;"));
        int[][] due = {{0, 2, 99, 513}, {0, 2, 99, 0}, {0, 2, 99, 1}};
        int[] kinds = {0, 8, 9};
        for (int i = 0; i < 3; i++) {
            for (int what = 0; what < 4; what++) {
                Bound.at("kind(" + kinds[i] + ", " + what + ")", due[i][what], Due.kind(x, kinds[i], what));
            }
        }
        Bound.beyond("kind(10, 0)", Due.THROWS, Due.kind(x, 10, 0));
        Bound.beyond("kind(-1, 0)", Due.THROWS, Due.kind(x, -1, 0));
        Bound.beyond("kind(0, 4)", Due.THROWS, Due.kind(x, 0, 4));
        Bound.beyond("kind(0, -1)", Due.THROWS, Due.kind(x, 0, -1));
        for (int k : OUTSIDE) {
            Bound.beyond("kind(" + k + ", 0)", Due.THROWS, Due.kind(x, k, 0));
            Bound.beyond("kind(0, " + k + ")", Due.THROWS, Due.kind(x, 0, k));
        }
        Due.table(x, "kind p;");
        Bound.at("no N", 0, Due.kind(x, 0, 2));
        Bound.at("no KINDS that it may answer", 0, Due.kind(x, 0, 3));
        Bound.beyond("a KIND of the TABLE before", Due.THROWS, Due.kind(x, 1, 0));
    }

    private static void say() {
        Bound.of("Promise 8", "0 it is SAID; why it is WRONG (1 to 6); NONE: no such ones, or there are 400.");
        CombTable x = Due.at(eightyWords());
        Bound.beyond("WHO -1", NONE, x.say(-1, 0));
        Bound.beyond("WHO 8", NONE, x.say(8, 0));
        Bound.beyond("KIND -1", NONE, x.say(0, -1));
        Bound.beyond("KIND 10", NONE, x.say(0, 10));
        for (int one : OUTSIDE) {
            Bound.beyond("WHO " + one, NONE, x.say(one, 0));
            Bound.beyond("KIND " + one, NONE, x.say(0, one));
        }
        Bound.at("none of them is SAID", 0, x.count(6));
        Bound.at("WHO 0, KIND 0", 0, x.say(0, 0));
        Bound.at("WHO 7, KIND 9", 0, x.say(7, 9));
        Bound.at("two are SAID", 2, x.count(6));
        Bound.first("drawn", 397, x.drawn(397, 5));
        Bound.at("the 400th", 0, x.say(3, 3));
        Bound.beyond("there are 400", NONE, x.say(3, 3));
        CombTable y = Due.at(CHAIN);
        Bound.first("say", 0, y.say(A, 0));
        Bound.beyond("WRONG 1", 1, y.say(A, 0));
        Bound.at("a WRONG one is not SAID", 1, y.count(6));
        Bound.beyond("no such KIND, though WRONG", NONE, y.say(A, 1));
    }

    private static void wrong() {
        Bound.of("Promise 9", "WRONG of a next WORD, which is not SAID; likewise.");
        CombTable x = Due.at(eightyWords());
        Bound.beyond("WHO -1", NONE, x.wrong(-1, 0));
        Bound.beyond("WHO 8", NONE, x.wrong(8, 0));
        Bound.beyond("KIND -1", NONE, x.wrong(0, -1));
        Bound.beyond("KIND 10", NONE, x.wrong(0, 10));
        for (int one : OUTSIDE) {
            Bound.beyond("WHO " + one, NONE, x.wrong(one, 0));
            Bound.beyond("KIND " + one, NONE, x.wrong(0, one));
        }
        Bound.at("WHO 7, KIND 9", 0, x.wrong(7, 9));
        Bound.at("it is not SAID", 0, x.count(6));
        Bound.first("drawn", 399, x.drawn(399, 5));
        Bound.at("the 400th", 0, x.wrong(0, 0));
        Bound.first("drawn", 1, x.drawn(1, 5));
        Bound.beyond("there are 400", NONE, x.wrong(0, 0));
        Bound.in("one is undone", 399, x.undo());
        Bound.at("the 400th", 0, x.wrong(0, 0));
    }

    private static void may() {
        Bound.of("Promise 10", "KINDS (bits) of which that WHO could say the next WORD; NONE: no such one.");
        CombTable x = Due.at(eightyWords());
        Bound.at("WHO 0", 1023, x.may(0));
        Bound.at("WHO 7", 1023, x.may(7));
        Bound.beyond("WHO 8", NONE, x.may(8));
        Bound.beyond("WHO -1", NONE, x.may(-1));
        for (int who : OUTSIDE) {
            Bound.beyond("WHO " + who, NONE, x.may(who));
        }
        Bound.first("drawn", 399, x.drawn(399, 5));
        Bound.in("the 400th", 1023, x.may(0));
        Bound.first("drawn", 1, x.drawn(1, 5));
        Bound.at("there are 400", 0, x.may(0));
        CombTable y = Bound.at(CHAIN + "kind q;may q p;", "a p;");
        Bound.at("none that is not WRONG", 0, y.may(A));
        Bound.in("both", 3, y.may(B));
        Bound.at("nothing is SAID", 1, y.count(6));
        Bound.at("no KINDS", 0, Due.at("who a 1;").may(0));
        Bound.beyond("no PEOPLE", NONE, Due.at("kind p begins;").may(0));
    }

    private static void undo() {
        Bound.of("Promise 11", "The latest WORD is undone: how many are left; NONE: there is none.");
        CombTable x = new CombTable();
        Bound.beyond("a new object", NONE, x.undo());
        Due.table(x, ALONE);
        Bound.beyond("no WORDS", NONE, x.undo());
        Bound.first("drawn", 400, x.drawn(400, 1));
        Bound.at("of 400", 399, x.undo());
        Bound.in("of 399", 398, x.undo());
        Due.talk(x, "a p;a p;");
        Bound.in("of two", 1, x.undo());
        Bound.at("of one", 0, x.undo());
        Bound.beyond("of none", NONE, x.undo());
        Bound.at("and no more", 0, x.count(6));
        Bound.at("a WORD again", 0, x.say(0, 0));
    }

    private static void talk() {
        Bound.of("Promise 12", "The tape is the TALK now: how many WORDS; -1 less the place of a FAULT: the TALK before "
            + "stays.");
        CombTable x = Bound.at(CHAIN, "a p;b p;");
        Bound.at("the tape is empty then", 0, x.count(8));
        Bound.at("place 0", -1, Due.talk(x, "?"));
        Bound.at("the tape is empty, here too", 0, x.count(8));
        Bound.in("place 4", -5, Due.talk(x, "b p;b p;"));
        Bound.at("place 900", -901, Due.talk(x, Bound.padded("b p;", 940)));
        Bound.at("the TALK before stays", 2, x.count(6));
        Bound.at("its WORDS", A, Due.word(x, 0, 0));
        Bound.at("its THREADS", 1, x.threads());
        Bound.in("from no WORDS on", 1, Due.talk(x, "b p;"));
        Bound.at("its WORD", B, Due.word(x, 0, 0));
        Bound.at("no WORDS", 0, x.talk());
        Bound.at("no THREADS", 0, x.threads());
        CombTable y = Due.at(ALONE);
        Bound.at("225 WORDS", 225, Due.talk(y, Bound.times("a p;", 225)));
        Bound.first("drawn", 175, y.drawn(400, 1));
        Bound.at("400 to 1", 1, Due.talk(y, "a p;"));
    }

    private static void why() {
        Bound.of("Promise 13", "Why it was WRONG in the latest talk(), if it had a FAULT 5; else 0.");
        CombTable x = new CombTable();
        Bound.at("ahead of any", 0, x.why());
        String table = "who a 1;who b 1;kind ask opens asks;kind yes grants 5;kind did keeps;kind hm opens;may yes ask;"
            + "may yes hm;may did yes;may hm ask;may hm hm;comb 1 1 2;";
        String[] talks = {"a ask;a ask;", "a yes;", "a ask;b did;", "b hm;a hm;b hm;", "a hm;b yes;",
            "a ask;b yes;a did;"};
        for (int i = 0; i < 6; i++) {
            Due.table(x, i < 5 ? table : table.replace("1 1 2", "1"));
            Bound.first("talk of " + talks[i], 1, Due.talk(x, talks[i]) < 0 ? 1 : 0);
            Bound.at("why of " + talks[i], i + 1, x.why());
        }
        Bound.in("FAULT 5", 5, x.fault());
        x.table();
        x.undo();
        Due.minutes(x, "?");
        Bound.at("other calls", 6, x.why());
        Due.talk(x, "?");
        Bound.beyond("FAULT 1", 0, x.why());
        CombTable y = Due.at("who a 1;who b 1;kind hm opens;may hm hm;comb 2;");
        Due.talk(y, "a hm;b hm;a hm;");
        Bound.at("why", 4, y.why());
        Due.talk(y, "c hm;");
        Bound.beyond("FAULT 3", 0, y.why());
        Due.talk(y, "a hm;a hm;");
        Bound.at("why", 1, y.why());
        Due.talk(y, "a hm;b hm;");
        Bound.beyond("no FAULT", 0, y.why());
        Bound.first("say", 4, y.say(A, 0));
        Bound.at("say is no talk()", 0, y.why());
    }

    private static void word() {
        Bound.of("Promise 14", "NoSuchElementException: no such ones.");
        CombTable x = told();
        Bound.at("word(0, 0)", A, Due.word(x, 0, 0));
        Bound.at("word(5, 7)", NONE, Due.word(x, 5, 7));
        Bound.beyond("word(6, 0)", Due.THROWS, Due.word(x, 6, 0));
        Bound.beyond("word(-1, 0)", Due.THROWS, Due.word(x, -1, 0));
        Bound.beyond("word(0, 8)", Due.THROWS, Due.word(x, 0, 8));
        Bound.beyond("word(0, -1)", Due.THROWS, Due.word(x, 0, -1));
        for (int t : OUTSIDE) {
            Bound.beyond("word(" + t + ", 0)", Due.THROWS, Due.word(x, t, 0));
            Bound.beyond("word(0, " + t + ")", Due.THROWS, Due.word(x, 0, t));
        }
        Bound.first("undo", 5, x.undo());
        Bound.beyond("one that is undone", Due.THROWS, Due.word(x, 5, 0));
    }

    private static void wordNone() {
        Bound.of("Promise 14", "2 which one it ANSWERS (NONE: none), 3 THREAD, 4 DEPTH, 5 STATE, 6 to whom it promises "
            + "(NONE: nothing), 7 by which WORD it is due (NONE).");
        CombTable x = told();
        int[][] due = {{NONE, 0, 0, 2, NONE, NONE}, {NONE, 1, 0, 0, NONE, NONE}, {0, 0, 1, 5, A, 6},
            {1, 1, 1, 0, NONE, NONE}, {2, 0, 2, 0, NONE, NONE}, {3, 1, 2, 1, NONE, NONE}};
        for (int t = 0; t < 6; t++) {
            for (int what = 2; what < 8; what++) {
                Bound.at("word(" + t + ", " + what + ")", due[t][what - 2], Due.word(x, t, what));
            }
        }
        String[] ends = {"c did;", "c lie;", "a go;", "a hm;a hm;a hm;"};
        for (String end : ends) {
            CombTable y = Bound.at(BoundsOfTalks.deal(2, "1"), "a ask;c yes;" + end);
            Bound.at("it promises to a still, " + end, A, Due.word(y, 1, 6));
            Bound.at("it is due still, " + end, 3, Due.word(y, 1, 7));
        }
        CombTable far = Due.at("who a 1;who b 1;kind p begins asks;kind q grants 99;may q p;comb 1;");
        Bound.first("say", 0, far.say(A, 0));
        for (int i = 0; i < 199; i++) {
            far.say(B, 1);
            far.say(A, 0);
        }
        Bound.first("WORDS", 399, far.count(6));
        Bound.first("say", 0, far.say(B, 1));
        Bound.beyond("due behind all that there can be", 498, Due.word(far, 399, 7));
    }

    private static void threads() {
        Bound.of("Promise 15", "THREADS.");
        CombTable x = new CombTable();
        Bound.at("a new object", 0, x.threads());
        Due.table(x, ALONE);
        Bound.at("no WORDS", 0, x.threads());
        Bound.first("say", 0, x.say(0, 0));
        Bound.at("one WORD", 1, x.threads());
        Bound.first("drawn", 399, x.drawn(399, 1));
        Bound.at("400 THREADS", 400, x.threads());
        Bound.first("undo", 399, x.undo());
        Bound.in("399 THREADS", 399, x.threads());
        Due.talk(x, "a p;");
        Bound.at("one WORD", 1, x.threads());
        Due.table(x, CHAIN);
        Bound.at("no WORDS", 0, x.threads());
    }

    private static void thread() {
        Bound.of("Promise 16", "WORDS of a THREAD: how many (k NONE), or the k-th one's number. NONE: none such.");
        CombTable x = told();
        Bound.in("of THREAD 0", 3, x.thread(0, NONE));
        Bound.at("its 0th", 0, x.thread(0, 0));
        Bound.in("its 1st", 2, x.thread(0, 1));
        Bound.at("its last", 4, x.thread(0, 2));
        Bound.beyond("one behind", NONE, x.thread(0, 3));
        Bound.beyond("-2", NONE, x.thread(0, -2));
        Bound.at("of the last THREAD", 3, x.thread(1, NONE));
        Bound.at("its last", 5, x.thread(1, 2));
        Bound.beyond("THREAD 2", NONE, x.thread(2, NONE));
        Bound.beyond("THREAD 2", NONE, x.thread(2, 0));
        Bound.beyond("THREAD -1", NONE, x.thread(-1, NONE));
        for (int one : OUTSIDE) {
            Bound.beyond("THREAD " + one, NONE, x.thread(one, NONE));
            Bound.beyond("THREAD " + one, NONE, x.thread(one, 0));
            Bound.beyond("k " + one, NONE, x.thread(0, one));
        }
        CombTable full = Due.at(CHAIN);
        Bound.beyond("no WORDS", NONE, full.thread(0, NONE));
        Bound.first("drawn", 400, full.drawn(400, 1));
        Bound.at("400 WORDS", 400, full.thread(0, NONE));
        Bound.at("the 399th", 399, full.thread(0, 399));
        Bound.beyond("the 400th", NONE, full.thread(0, 400));
    }

    private static void with() {
        Bound.of("Promise 17", "WORDS with a STATE (1 to 8): how many (k NONE), or the k-th one's number. NONE: none "
            + "such.");
        CombTable x = told();
        int[] many = {1, 1, 0, 0, 1, 0, 0, 0};
        int[] place = {5, 0, NONE, NONE, 2, NONE, NONE, NONE};
        for (int state = 1; state <= 8; state++) {
            Bound.at("with(" + state + ", NONE)", many[state - 1], x.with(state, NONE));
            Bound.at("with(" + state + ", 0)", place[state - 1], x.with(state, 0));
            Bound.beyond("with(" + state + ", 1)", NONE, x.with(state, 1));
            Bound.beyond("with(" + state + ", -2)", NONE, x.with(state, -2));
        }
        Bound.beyond("STATE 0", NONE, x.with(0, NONE));
        Bound.beyond("STATE 0", NONE, x.with(0, 0));
        Bound.beyond("STATE 9", NONE, x.with(9, NONE));
        Bound.beyond("STATE -1", NONE, x.with(-1, NONE));
        for (int one : OUTSIDE) {
            Bound.beyond("STATE " + one, NONE, x.with(one, NONE));
            Bound.beyond("k " + one, NONE, x.with(1, one));
        }
        Bound.at("no WORDS", 0, new CombTable().with(1, NONE));
        CombTable y = Bound.at(BoundsOfTalks.deal(1, "1"), "a ask;b yes;a hm;");
        Bound.in("not LAPSED yet", 0, y.with(8, NONE));
        Bound.first("say", 0, y.say(A, 6));
        Bound.at("LAPSED", 1, y.with(8, NONE));
        Bound.at("not open any more", 0, y.with(4, NONE));
        Bound.at("the LAPSED one", 1, y.with(8, 0));
        CombTable full = Due.at("who a 1;kind p begins asks;twice;");
        Bound.first("drawn", 400, full.drawn(400, 1));
        Bound.at("400 WORDS", 400, full.with(1, NONE));
        Bound.at("the 399th", 399, full.with(1, 399));
        Bound.beyond("the 400th", NONE, full.with(1, 400));
    }

    private static void promised() {
        Bound.of("Promise 18", "PROMISES of a to b with a STATE (4 to 8; 0: any). NONE: no such ones.");
        String[] ends = {"b hm;", "b did;", "b lie;", "a go;", "b hm;b hm;"};
        for (int i = 0; i < 5; i++) {
            CombTable x = Bound.at(BoundsOfTalks.deal(1, "1"), "a ask;b yes;" + ends[i]);
            for (int state = 4; state <= 8; state++) {
                Bound.at("STATE " + state + " behind " + ends[i], state == 4 + i ? 1 : 0, x.promised(B, A, state));
            }
            Bound.at("any behind " + ends[i], 1, x.promised(B, A, 0));
            Bound.in("the other way", 0, x.promised(A, B, 0));
            Bound.in("to itself", 0, x.promised(B, B, 0));
            Bound.beyond("STATE 3", NONE, x.promised(B, A, 3));
            Bound.beyond("STATE 1", NONE, x.promised(B, A, 1));
            Bound.beyond("STATE 9", NONE, x.promised(B, A, 9));
            Bound.beyond("STATE -1", NONE, x.promised(B, A, -1));
        }
        CombTable x = Due.at(BoundsOfTalks.deal(1, "1"));
        Bound.at("no WORDS", 0, x.promised(A, A, 0));
        Bound.at("the last WHO", 0, x.promised(C, C, 4));
        Bound.beyond("WHO 3", NONE, x.promised(3, A, 0));
        Bound.beyond("to WHO 3", NONE, x.promised(A, 3, 0));
        Bound.beyond("WHO -1", NONE, x.promised(-1, A, 0));
        Bound.beyond("to WHO -1", NONE, x.promised(A, -1, 0));
        for (int one : OUTSIDE) {
            Bound.beyond("WHO " + one, NONE, x.promised(one, A, 0));
            Bound.beyond("to WHO " + one, NONE, x.promised(A, one, 0));
            Bound.beyond("STATE " + one, NONE, x.promised(A, B, one));
        }
    }

    private static void minutes() {
        Bound.of("Promise 19", "The tape is the TORN minutes now: how many WORDS; -1 less the place of a FAULT: the "
            + "minutes before stay.");
        CombTable x = Due.at(CHAIN);
        Bound.in("two WORDS", 2, Due.minutes(x, "a p;any any;"));
        Bound.at("the tape is empty then", 0, x.count(8));
        Bound.at("place 0", -1, Due.minutes(x, "?"));
        Bound.at("the tape is empty, here too", 0, x.count(8));
        Bound.at("place 300", -301, Due.minutes(x, Bound.padded("a p;", 301)));
        Bound.in("place 4", -5, Due.minutes(x, "b p;?"));
        Bound.at("the minutes before stay", 2, x.count(7));
        Bound.at("their 'any' too", NONE, x.mend());
        Bound.at("their WHO too", 1, x.wholes(0));
        Bound.at("WHO 0", 1, x.sure(0, 0));
        Bound.at("24 WORDS", 24, Due.minutes(x, Bound.times("a p;", 24)));
        Bound.at("no WORDS", 0, x.minutes());
        Bound.at("no WORDS", 0, x.count(7));
        Bound.at("'any' of those before is gone", 0, x.mend());
    }

    private static void wholes() {
        Bound.of("Promise 20", "WHOLES by 0, 1, 2: how many; NONE: another one; -2: TOO MANY.");
        CombTable x = Due.at(CHAIN);
        Bound.first("minutes", 2, Due.minutes(x, "a p;b p;"));
        Bound.at("by 0", 1, x.wholes(0));
        Bound.in("by 1", 2, x.wholes(1));
        Bound.at("by 2", 1, x.wholes(2));
        Bound.beyond("by 3", NONE, x.wholes(3));
        Bound.beyond("by -1", NONE, x.wholes(-1));
        for (int by : OUTSIDE) {
            Bound.beyond("by " + by, NONE, x.wholes(by));
        }
        Bound.first("minutes", 2, Due.minutes(x, "a p;a p;"));
        Bound.at("there are none", 0, x.wholes(0));
        CombTable many = Due.at(eightyWords());
        Bound.first("minutes", 4, Due.minutes(many, "any any;any any;any any;any any;"));
        for (int by = 0; by < 3; by++) {
            Bound.beyond("TOO MANY by " + by, -2, many.wholes(by));
        }
        Bound.beyond("another one, though TOO MANY", NONE, many.wholes(3));
    }

    private static void sure() {
        Bound.of("Promise 21", "Of WORD t in the latest wholes() that was 0 or above (as they were numbered in the "
            + "WHOLES): 0 WHO, 1 KIND, 2 STATE at the end, as bits of all that there can be; NONE: no such ones, "
            + "none, or ahead of any.");
        CombTable x = Due.at(CHAIN + "kind q begins asks;");
        Bound.at("ahead of any", NONE, x.sure(0, 0));
        Bound.first("minutes", 2, Due.minutes(x, "any p;b any;"));
        Bound.at("ahead of any", NONE, x.sure(0, 0));
        Bound.first("wholes", 2, x.wholes(0));
        int[][] due = {{1, 1, 1}, {2, 3, 3}};
        for (int t = 0; t < 2; t++) {
            for (int what = 0; what < 3; what++) {
                Bound.at("sure(" + t + ", " + what + ")", due[t][what], x.sure(t, what));
            }
        }
        Bound.beyond("WORD 2", NONE, x.sure(2, 0));
        Bound.beyond("WORD -1", NONE, x.sure(-1, 0));
        Bound.beyond("what 3", NONE, x.sure(0, 3));
        Bound.beyond("what -1", NONE, x.sure(0, -1));
        for (int one : OUTSIDE) {
            Bound.beyond("WORD " + one, NONE, x.sure(one, 0));
            Bound.beyond("what " + one, NONE, x.sure(0, one));
        }
        Bound.first("wholes by another one", NONE, x.wholes(3));
        Bound.at("the latest one stays", 3, x.sure(1, 1));
        Bound.first("minutes", 2, Due.minutes(x, "a p;a p;"));
        Bound.at("the latest one stays", 3, x.sure(1, 1));
        Bound.first("wholes", 0, x.wholes(0));
        Bound.at("there are none", NONE, x.sure(0, 0));
        Bound.first("wholes by 1", 2, x.wholes(1));
        Bound.at("the WORD that is left", 1, x.sure(0, 0));
        Bound.beyond("one is left out", NONE, x.sure(1, 0));
        Bound.first("minutes", 2, Due.minutes(x, "any p;any any;"));
        Bound.first("wholes", 4, x.wholes(0));
        Bound.in("more of all three", 3 + 3 + 3, x.sure(1, 0) + x.sure(1, 1) + x.sure(1, 2));
        Bound.first("minutes", 2, Due.minutes(x, "b p;a p;"));
        Bound.first("hangs", 2, x.hangs());
        Bound.in("hangs is no wholes()", 3 + 3 + 3, x.sure(1, 0) + x.sure(1, 1) + x.sure(1, 2));
        Bound.first("wholes", 1, x.wholes(0));
        Bound.at("of the latest alone", 2, x.sure(0, 0));
        Bound.at("of the latest alone", 1 + 1 + 1, x.sure(1, 0) + x.sure(1, 1) + x.sure(1, 2));
        Bound.first("hangs, with more KINDS of WORD 1", 2, x.hangs());
        Bound.at("hangs is no wholes()", 1 + 1 + 1, x.sure(1, 0) + x.sure(1, 1) + x.sure(1, 2));
        sureOfMany();
    }

    private static void sureOfMany() {
        CombTable full = Due.at(eightyWords());
        Bound.first("minutes", 24, Due.minutes(full, Bound.times("h t;", 23) + "any any;"));
        Bound.first("wholes", 80, full.wholes(0));
        Bound.at("WHO of WORD 23", 255, full.sure(23, 0));
        Bound.at("KIND of WORD 23", 1023, full.sure(23, 1));
        Bound.at("WHO of WORD 22", 128, full.sure(22, 0));
        Bound.at("KIND of WORD 22", 512, full.sure(22, 1));
        Bound.beyond("WORD 24", NONE, full.sure(24, 0));
        Bound.first("wholes by 2", 23 * 80, full.wholes(2));
        Bound.at("exchanged", 255, full.sure(22, 0));
        Bound.first("minutes", 4, Due.minutes(full, "any any;any any;any any;any any;"));
        Bound.first("TOO MANY", -2, full.wholes(0));
        Bound.at("the latest that was 0 or above", 255, full.sure(22, 0));
        CombTable lapsed = Due.at(BoundsOfTalks.deal(1, "1"));
        Bound.first("minutes", 4, Due.minutes(lapsed, "a ask;b any;any hm;a hm;"));
        Bound.first("wholes", 9, lapsed.wholes(0));
        Bound.at("STATE at the end", 1 << 0 | 1 << 8, lapsed.sure(1, 2));
        Bound.at("STATE at the end", 1 << 1 | 1 << 2 | 1 << 3, lapsed.sure(0, 2));
    }

    private static void hangs() {
        Bound.of("Promise 22", "(each alone; 8 'any' or not), would let there be more WHOLES by 0 than there are (0: "
            + "none would); NONE: there are no WHOLES by 0; -2: TOO MANY (looked at first).");
        CombTable x = Due.at(CHAIN);
        Bound.first("minutes", 1, Due.minutes(x, "a p;"));
        Bound.in("it would", 1, x.hangs());
        Bound.first("minutes", 2, Due.minutes(x, "a p;b p;"));
        Bound.at("none would", 0, x.hangs());
        Bound.first("minutes", 2, Due.minutes(x, "any p;b any;"));
        Bound.at("no WORD without 'any'", 0, x.hangs());
        Bound.first("minutes", 2, Due.minutes(x, "a p;a p;"));
        Bound.beyond("no WHOLES", NONE, x.hangs());
        CombTable y = Due.at("who a 1;who b 1;kind p begins;twice;");
        Bound.first("minutes", 9, Due.minutes(y, "b p;" + Bound.times("any p;", 8)));
        Bound.at("8 'any'", 1, y.hangs());
        Bound.first("minutes", 24, Due.minutes(y, Bound.times("a p;", 24)));
        Bound.at("all of 24", 0xffffff, y.hangs());
        CombTable many = Due.at(eightyWords() + "kind u;".substring(7));
        Bound.first("minutes", 4, Due.minutes(many, "any any;any any;any any;any any;"));
        Bound.beyond("TOO MANY", -2, many.hangs());
        CombTable none = Due.at(tenKinds("", ""));
        Bound.first("minutes", 5, Due.minutes(none, "any any;a any;a any;a any;a any;"));
        Bound.beyond("TOO MANY is looked at first", -2, none.hangs());
        Bound.first("minutes", 1, Due.minutes(none, "any any;"));
        Bound.in("no WHOLES", NONE, none.hangs());
    }

    private static void mend() {
        Bound.of("Promise 23", "MENDED: how many are left out; NONE: 'any' in them, or too many.");
        CombTable x = Due.at(CHAIN);
        Bound.at("no WORDS", 0, x.mend());
        Bound.first("minutes", 14, Due.minutes(x, Bound.times("a p;", 14)));
        Bound.at("13 of 14", 13, x.mend());
        Bound.first("minutes", 15, Due.minutes(x, Bound.times("a p;", 15)));
        Bound.beyond("15 WORDS", NONE, x.mend());
        Bound.first("minutes", 1, Due.minutes(x, "any p;"));
        Bound.beyond("'any'", NONE, x.mend());
        Bound.first("minutes", 1, Due.minutes(x, "a any;"));
        Bound.beyond("'any'", NONE, x.mend());
        Bound.first("minutes", 1, Due.minutes(x, "a p;"));
        Bound.in("none of one", 0, x.mend());
    }

    private static void mended() {
        Bound.of("Promise 24", "Those left out by the latest mend() that was not NONE, as bits; NONE ahead of any.");
        CombTable x = Due.at(CHAIN);
        Bound.at("ahead of any", NONE, x.mended());
        Bound.first("minutes", 1, Due.minutes(x, "any p;"));
        Bound.first("mend", NONE, x.mend());
        Bound.at("ahead of any that was not NONE", NONE, x.mended());
        Bound.first("minutes", 2, Due.minutes(x, "a p;a p;"));
        Bound.at("ahead of it", NONE, x.mended());
        Bound.first("mend", 1, x.mend());
        Bound.at("as bits", 1, x.mended());
        Bound.first("minutes", 15, Due.minutes(x, Bound.times("a p;", 15)));
        Bound.first("mend", NONE, x.mend());
        Bound.at("the latest that was not NONE", 1, x.mended());
        Bound.first("minutes", 2, Due.minutes(x, "a p;b p;"));
        Bound.first("mend", 0, x.mend());
        Bound.at("none", 0, x.mended());
        Bound.first("table", 0, x.table());
        Bound.at("a new TABLE", 0, x.mended());
    }

    private static void orders() {
        Bound.of("Promise 25", "ORDERS: how many; NONE: 'any' in them, or too many WORDS.");
        CombTable x = Due.at(CHAIN);
        Bound.at("no WORDS", 1, x.orders());
        Bound.first("minutes", 7, Due.minutes(x, Bound.times("a p;b p;", 3) + "a p;"));
        Bound.at("7 WORDS", 24 * 6, x.orders());
        Bound.first("minutes", 8, Due.minutes(x, Bound.times("a p;b p;", 4)));
        Bound.beyond("8 WORDS", NONE, x.orders());
        Bound.first("minutes", 1, Due.minutes(x, "a any;"));
        Bound.beyond("'any'", NONE, x.orders());
        Bound.first("minutes", 1, Due.minutes(x, "any p;"));
        Bound.beyond("'any'", NONE, x.orders());
        Bound.first("minutes", 2, Due.minutes(x, "a p;a p;"));
        Bound.in("none", 0, x.orders());
    }

    private static void orderAt() {
        Bound.of("Promise 26", "The place (from 0) of the i-th WORD by the first of the latest orders() that was 1 or "
            + "above; NONE: none such, or ahead of any.");
        CombTable x = Due.at(CHAIN + "kind q;may q p;kind r;may r q;");
        Bound.at("ahead of any", NONE, x.orderAt(0));
        Bound.first("minutes", 3, Due.minutes(x, "b q;a r;a p;"));
        Bound.at("ahead of any", NONE, x.orderAt(0));
        Bound.first("orders", 1, x.orders());
        int[] due = {2, 0, 1};
        for (int i = 0; i < 3; i++) {
            Bound.at("the " + i + "th", due[i], x.orderAt(i));
        }
        Bound.beyond("the 3rd", NONE, x.orderAt(3));
        Bound.beyond("-1", NONE, x.orderAt(-1));
        for (int i : OUTSIDE) {
            Bound.beyond("" + i, NONE, x.orderAt(i));
        }
        Bound.first("minutes", 2, Due.minutes(x, "b q;a r;"));
        Bound.first("orders", 0, x.orders());
        Bound.at("the latest that was 1 or above", 2, x.orderAt(0));
        Bound.first("minutes", 2, Due.minutes(x, "b any;a r;"));
        Bound.first("orders", NONE, x.orders());
        Bound.at("the latest that was 1 or above", 1, x.orderAt(2));
        Bound.first("table", 0, x.table());
        Bound.at("a new TABLE", 2, x.orderAt(0));
        Bound.first("orders", 1, x.orders());
        Bound.beyond("of no WORDS", NONE, x.orderAt(0));
        CombTable y = Due.at(ALONE);
        Bound.first("minutes", 7, Due.minutes(y, Bound.times("a p;", 7)));
        Bound.first("orders", 5040, y.orders());
        Bound.at("the 6th", 6, y.orderAt(6));
        Bound.beyond("the 7th", NONE, y.orderAt(7));
    }

    private static void drawn() {
        Bound.of("Promise 27", "n (1 to 400) WORDS are DRAWN: how many were SAID (it ends with 400 WORDS, too); NONE: "
            + "not as told.");
        CombTable x = Due.at(ALONE);
        Bound.beyond("0", NONE, x.drawn(0, 1));
        Bound.beyond("401", NONE, x.drawn(401, 1));
        Bound.beyond("-1", NONE, x.drawn(-1, 1));
        for (int n : OUTSIDE) {
            if (n != 400) {
                Bound.beyond("" + n, NONE, x.drawn(n, 1));
            }
        }
        Bound.at("nothing is SAID", 0, x.count(6));
        Bound.at("1", 1, x.drawn(1, 1));
        Bound.in("398", 398, x.drawn(398, MIN));
        Bound.at("it ends with 400 WORDS", 1, x.drawn(2, MAX));
        Bound.at("400 WORDS", 400, x.count(6));
        Bound.at("there are 400", 0, x.drawn(1, 1));
        Due.talk(x, "");
        Bound.at("400", 400, x.drawn(400, -1));
        Bound.first("undo", 399, x.undo());
        Bound.in("one is left", 1, x.drawn(400, -1));
        Bound.beyond("401, though there are 400", NONE, x.drawn(401, -1));
    }

    private static void spoke() {
        Bound.of("Promise 28", "WORDS SAID by a WHO (NONE: any), of a KIND (NONE: any); NONE: no such ones.");
        CombTable x = told();
        Bound.at("any, any", 6, x.spoke(NONE, NONE));
        Bound.at("WHO 0", 2, x.spoke(A, NONE));
        Bound.at("WHO 2", 2, x.spoke(C, NONE));
        Bound.at("KIND 0", 2, x.spoke(NONE, 0));
        Bound.at("KIND 6", 2, x.spoke(NONE, 6));
        Bound.in("both", 1, x.spoke(B, 6));
        Bound.in("none", 0, x.spoke(B, 1));
        Bound.beyond("WHO 3", NONE, x.spoke(3, NONE));
        Bound.beyond("WHO 3", NONE, x.spoke(3, 0));
        Bound.beyond("WHO -2", NONE, x.spoke(-2, 0));
        Bound.beyond("KIND 7", NONE, x.spoke(NONE, 7));
        Bound.beyond("KIND 7", NONE, x.spoke(A, 7));
        Bound.beyond("KIND -2", NONE, x.spoke(A, -2));
        for (int one : OUTSIDE) {
            Bound.beyond("WHO " + one, NONE, x.spoke(one, NONE));
            Bound.beyond("KIND " + one, NONE, x.spoke(NONE, one));
        }
        CombTable full = Due.at(ALONE);
        Bound.at("no WORDS", 0, full.spoke(NONE, NONE));
        Bound.first("drawn", 400, full.drawn(400, 1));
        Bound.at("400 WORDS", 400, full.spoke(A, 0));
    }

    private static void road() {
        Bound.of("Promise 29", "ROAD: how many WORDS; NONE: there is none; -2: TOO MANY; -3: no such STATE (0 to 8), n "
            + "or w (0 to 399).");
        CombTable x = Bound.at(CHAIN, "a p;b p;");
        Bound.at("STATE 0", 0, x.road(0, 0, 1));
        Bound.in("STATE 1", NONE, x.road(0, 1, 1));
        Bound.at("STATE 8", NONE, x.road(0, 8, 8));
        Bound.beyond("STATE 9", -3, x.road(0, 9, 1));
        Bound.beyond("STATE -1", -3, x.road(0, -1, 1));
        Bound.at("n 1", 1, x.road(2, 0, 1));
        Bound.at("n 8", 8, x.road(9, 0, 8));
        Bound.beyond("n 0", -3, x.road(2, 0, 0));
        Bound.beyond("n 9", -3, x.road(2, 0, 9));
        Bound.beyond("n -1", -3, x.road(2, 0, -1));
        Bound.at("w 0", 0, x.road(0, 0, 8));
        Bound.at("w 399", NONE, x.road(399, 0, 8));
        Bound.beyond("w 400", -3, x.road(400, 0, 8));
        Bound.beyond("w -1", -3, x.road(-1, 0, 8));
        for (int one : OUTSIDE) {
            Bound.beyond("w " + one, -3, x.road(one, 0, 8));
            Bound.beyond("STATE " + one, -3, x.road(0, one, 8));
            Bound.beyond("n " + one, -3, x.road(0, 0, one));
        }
        CombTable many = Due.at(eightyWords());
        Bound.beyond("TOO MANY", -2, many.road(0, 0, 3));
        Bound.beyond("-3, though TOO MANY", -3, many.road(400, 0, 3));
        Bound.beyond("-3, though TOO MANY", -3, many.road(0, 9, 3));
        Bound.beyond("n 9, though TOO MANY", -3, many.road(0, 0, 9));
        Bound.in("80 twice", 1, many.road(0, 0, 2));
    }

    private static void without() {
        Bound.of("Promise 30", "ROAD on which one WHO says nothing: how many WORDS; else as for road() (what found() "
            + "tells stays); -3, too: no such WHO.");
        CombTable x = Bound.at("who a 1;who b 1;who c 1;kind p opens asks;kind q refuses;may q p;comb 1;", "a p;");
        Bound.first("road", 1, x.road(0, 3, 2));
        Bound.first("found", 17, x.found(0));
        Bound.at("WHO 0", 1, x.without(A, 0, 3, 2));
        Bound.in("WHO 1", 1, x.without(B, 0, 3, 2));
        Bound.at("WHO 2", 1, x.without(C, 0, 3, 2));
        Bound.at("what found() tells stays", 17, x.found(0));
        Bound.beyond("WHO 3", -3, x.without(3, 0, 3, 2));
        Bound.beyond("WHO -1", -3, x.without(-1, 0, 3, 2));
        for (int who : OUTSIDE) {
            Bound.beyond("WHO " + who, -3, x.without(who, 0, 3, 2));
            Bound.beyond("w " + who, -3, x.without(A, who, 3, 2));
            Bound.beyond("STATE " + who, -3, x.without(A, 0, who, 2));
            Bound.beyond("n " + who, -3, x.without(A, 0, 3, who));
        }
        Bound.at("it is so", 0, x.without(A, 0, 1, 1));
        Bound.at("what found() tells stays", 17, x.found(0));
        Bound.at("w 399", NONE, x.without(A, 399, 0, 1));
        Bound.beyond("w 400", -3, x.without(A, 400, 0, 1));
        Bound.beyond("w -1", -3, x.without(A, -1, 0, 1));
        Bound.at("STATE 8", NONE, x.without(A, 0, 8, 1));
        Bound.beyond("STATE 9", -3, x.without(A, 0, 9, 1));
        Bound.beyond("STATE -1", -3, x.without(A, 0, -1, 1));
        Bound.at("n 7", 1, x.without(A, 0, 3, 7));
        Bound.beyond("n 8, TOO MANY", -2, x.without(A, 0, 3, 8));
        Bound.beyond("n 9", -3, x.without(A, 0, 3, 9));
        Bound.beyond("n 0", -3, x.without(A, 0, 3, 0));
        CombTable two = Bound.at(CHAIN, "a p;");
        Bound.at("b alone", 1, two.without(A, 1, 0, 8));
        Bound.in("then nobody", NONE, two.without(A, 2, 0, 8));
        CombTable one = Due.at(ALONE);
        Bound.at("of one, nobody", NONE, one.without(A, 0, 0, 8));
        Bound.in("all of one", 1, one.road(0, 0, 8));
    }

    private static void game() {
        Bound.of("Promise 31", "GAME: how many WORDS; NONE: it can't be had in n (1 to 8); -2: TOO MANY; -3: no such "
            + "STATE, n, or WORD there now, bits that are none, or a side without PEOPLE.");
        CombTable x = Bound.at(CHAIN, "a p;b p;");
        Bound.at("STATE 0", 0, x.game(1, 0, 0, 1));
        Bound.in("STATE 1", NONE, x.game(1, 0, 1, 1));
        Bound.at("STATE 8", NONE, x.game(1, 0, 8, 8));
        Bound.beyond("STATE 9", -3, x.game(1, 0, 9, 1));
        Bound.beyond("STATE -1", -3, x.game(1, 0, -1, 1));
        Bound.beyond("n 0", -3, x.game(1, 0, 0, 0));
        Bound.beyond("n 9", -3, x.game(1, 0, 0, 9));
        Bound.at("WORD 1", 0, x.game(1, 1, 0, 1));
        Bound.beyond("WORD 2", -3, x.game(1, 2, 0, 1));
        Bound.beyond("WORD -1", -3, x.game(1, -1, 0, 1));
        Bound.at("side 1", 0, x.game(1, 0, 0, 1));
        Bound.at("side 2", 0, x.game(2, 0, 0, 1));
        Bound.beyond("side 3, none on the other", -3, x.game(3, 0, 0, 1));
        Bound.beyond("side 0, none on this one", -3, x.game(0, 0, 0, 1));
        Bound.beyond("side 4", -3, x.game(4, 0, 0, 1));
        Bound.beyond("side 5", -3, x.game(5, 0, 0, 1));
        Bound.beyond("side -1", -3, x.game(-1, 0, 0, 1));
        for (int one : OUTSIDE) {
            Bound.beyond("side " + one, -3, x.game(one, 0, 0, 1));
            Bound.beyond("WORD " + one, -3, x.game(1, one, 0, 1));
            Bound.beyond("STATE " + one, -3, x.game(1, 0, one, 1));
            Bound.beyond("n " + one, -3, x.game(1, 0, 0, one));
        }
        CombTable many = Bound.at(eightyWords(), "a k;");
        Bound.at("side 1", 0, many.game(1, 0, 0, 1));
        Bound.at("side 254", 0, many.game(254, 0, 0, 2));
        Bound.beyond("side 255", -3, many.game(255, 0, 0, 1));
        Bound.beyond("side 256", -3, many.game(256, 0, 0, 1));
        Bound.beyond("TOO MANY", -2, many.game(1, 0, 0, 3));
        Bound.beyond("-3, though TOO MANY", -3, many.game(255, 0, 0, 3));
        Bound.beyond("-3, though TOO MANY", -3, many.game(1, 1, 0, 3));
        Bound.beyond("one alone has no others", -3, Bound.at(ALONE, "a p;").game(1, 0, 0, 1));
    }

    private static void found() {
        Bound.of("Promise 32", "WORD i of the latest ROAD that was 0 or above, UNLIKE that was 1 or above: 16 times the "
            + "WHO and the KIND. NONE: none such, or ahead of any.");
        CombTable x = Due.at(CHAIN);
        Bound.at("ahead of any", NONE, x.found(0));
        Bound.first("road", NONE, x.road(8, 0, 8));
        Bound.at("ahead of any", NONE, x.found(0));
        Bound.first("road", 8, x.road(7, 0, 8));
        for (int i = 0; i < 8; i++) {
            Bound.at("WORD " + i + " of 8", i % 2 * 16, x.found(i));
        }
        Bound.beyond("WORD 8", NONE, x.found(8));
        Bound.beyond("WORD -1", NONE, x.found(-1));
        for (int i : OUTSIDE) {
            Bound.beyond("WORD " + i, NONE, x.found(i));
        }
        Bound.first("road", NONE, x.road(8, 0, 8));
        Bound.first("road", -3, x.road(8, 0, 9));
        Bound.first("image", 1, x.image(0) ? 1 : 0);
        Bound.first("unlike", 0, x.unlike(0, 6));
        Bound.at("the latest of them", 16, x.found(7));
        Bound.first("table", 1, Due.table(x, "who a 1;"));
        Bound.at("a new TABLE", 16, x.found(7));
        Bound.first("unlike", 1, x.unlike(0, 6));
        Bound.at("WORD 0 of UNLIKE", 0, x.found(0));
        Bound.beyond("WORD 1 of UNLIKE", NONE, x.found(1));
        Bound.first("restore", 1, x.restore(0) ? 1 : 0);
        Bound.first("say", 0, x.say(A, 0));
        Bound.first("road", 0, x.road(0, 0, 1));
        Bound.at("of no WORDS", NONE, x.found(0));
        String seven = tenKinds("", "who c 1;who d 1;who e 1;who f 1;who g 1;").replace("kind t ;", "kind t begins;");
        CombTable last = Due.at(seven + "who h 1;");
        Bound.first("image", 1, last.image(0) ? 1 : 0);
        Bound.first("table", 17, Due.table(last, seven));
        Bound.first("unlike", 1, last.unlike(0, 1));
        Bound.at("WHO 7, KIND 9", 16 * 7 + 9, last.found(0));
    }

    private static void unlike() {
        Bound.of("Promise 33", "UNLIKE to the TABLE kept in place k: how many WORDS; 0: they are like in n; -2: TOO "
            + "MANY; -3: nothing is kept there, no such n.");
        CombTable x = Bound.at(CHAIN, "a p;");
        Bound.beyond("nothing is kept in 0", -3, x.unlike(0, 1));
        Bound.beyond("nothing is kept in 1", -3, x.unlike(1, 1));
        Bound.first("image", 1, x.image(1) ? 1 : 0);
        Bound.beyond("nothing is kept in 0", -3, x.unlike(0, 1));
        Bound.at("they are like in 1", 0, x.unlike(1, 1));
        Bound.at("they are like in 6", 0, x.unlike(1, 6));
        Bound.beyond("n 0", -3, x.unlike(1, 0));
        Bound.beyond("n 7", -3, x.unlike(1, 7));
        Bound.beyond("n -1", -3, x.unlike(1, -1));
        Bound.first("image", 1, x.image(0) ? 1 : 0);
        Bound.at("place 0", 0, x.unlike(0, 6));
        Bound.beyond("place 2", -3, x.unlike(2, 1));
        Bound.beyond("place -1", -3, x.unlike(-1, 1));
        for (int one : OUTSIDE) {
            Bound.beyond("place " + one, -3, x.unlike(one, 1));
            Bound.beyond("n " + one, -3, x.unlike(0, one));
        }
        Bound.first("table", 6, Due.table(x, CHAIN.replace("comb 1;", "comb 1 1 1 1 1 2;") + "kind q;"));
        Bound.at("in 5 WORDS they are like", 0, x.unlike(0, 5));
        Bound.at("in 6 they are not", 6, x.unlike(0, 6));
        Bound.at("WORD 5", 16, x.found(5));
        Bound.at("nothing is SAID", 0, x.count(6));
        Bound.first("table", 19, Due.table(x, eightyWords()));
        Bound.beyond("TOO MANY", -2, x.unlike(0, 3));
        Bound.beyond("-3, though TOO MANY", -3, x.unlike(0, 7));
        Bound.beyond("-3, though TOO MANY", -3, x.unlike(2, 3));
    }

    private static void sentence() {
        Bound.of("Promise 34", "The tape is the SENTENCE now: how many ONES (each not, bracket and other one); -1 less "
            + "the place of a FAULT: the SENTENCE before stays.");
        CombTable x = Bound.at(CHAIN, "a p;b p;a p;");
        Bound.at("no SENTENCE stays", -1, Due.sentence(x, ""));
        Bound.at("no SENTENCE stays", NONE, x.said(NONE));
        Bound.at("one", 1, Due.sentence(x, "by a"));
        Bound.at("the tape is empty then", 0, x.count(8));
        Bound.in("a not", 2, Due.sentence(x, "not by b"));
        Bound.in("a bracket", 2, Due.sentence(x, "(by b)"));
        Bound.at("all of them", 7, Due.sentence(x, "not (by a or not not to b and is p)"));
        Bound.at("20", 20, Due.sentence(x, "by a" + Bound.times(" or by a", 19)));
        Bound.at("place 0", -1, Due.sentence(x, "?"));
        Bound.at("the tape is empty, here too", 0, x.count(8));
        Bound.at("place 200", -201, Due.sentence(x, Bound.padded("by b", 201)));
        Bound.in("place 5", -6, Due.sentence(x, "by b by b"));
        Bound.at("the SENTENCE before stays", 2, x.said(NONE));
    }

    private static void said() {
        Bound.of("Promise 35", "WORDS of which it may be said: how many (k NONE), or the k-th one's number. NONE: there "
            + "is no SENTENCE, none such.");
        CombTable x = Bound.at(CHAIN, "a p;b p;a p;");
        Bound.beyond("there is no SENTENCE", NONE, x.said(NONE));
        Bound.beyond("there is no SENTENCE", NONE, x.said(0));
        Bound.first("sentence", 1, Due.sentence(x, "by a"));
        Bound.in("how many", 2, x.said(NONE));
        Bound.at("the 0th", 0, x.said(0));
        Bound.at("the 1st", 2, x.said(1));
        Bound.beyond("the 2nd", NONE, x.said(2));
        Bound.beyond("-2", NONE, x.said(-2));
        for (int k : OUTSIDE) {
            Bound.beyond("" + k, NONE, x.said(k));
        }
        Bound.first("sentence", 1, Due.sentence(x, "place>2"));
        Bound.at("of none", 0, x.said(NONE));
        Bound.beyond("of none the 0th", NONE, x.said(0));
        CombTable full = Due.at(ALONE);
        Bound.first("drawn", 400, full.drawn(400, 1));
        Bound.first("sentence", 1, Due.sentence(full, "is p"));
        Bound.at("400 WORDS", 400, full.said(NONE));
        Bound.at("the 399th", 399, full.said(399));
        Bound.beyond("the 400th", NONE, full.said(400));
    }

    private static void image() {
        Bound.of("Promise 36", "TABLE, TALK, minutes and SENTENCE are kept in place k (0, 1): true; false: no such one.");
        CombTable x = new CombTable();
        Bound.at("place 0 of a new object", true, x.image(0));
        Bound.at("place 1", true, x.image(1));
        Bound.beyond("place 2", false, x.image(2));
        Bound.beyond("place -1", false, x.image(-1));
        for (int k : OUTSIDE) {
            Bound.beyond("place " + k, false, x.image(k));
        }
        Due.table(x, ALONE);
        Bound.first("drawn", 400, x.drawn(400, 1));
        Bound.at("400 WORDS", true, x.image(1));
        Bound.first("restore", 1, x.restore(0) ? 1 : 0);
        Bound.at("nothing was in place 0", 0, x.count(0) + x.count(1) + x.count(6));
        Bound.first("restore", 1, x.restore(1) ? 1 : 0);
        Bound.at("400 WORDS in place 1", 400, x.count(6));
        Bound.at("their THREADS", 400, x.threads());
        Bound.first("undo", 399, x.undo());
        Bound.in("the same place again", true, x.image(1));
        Due.table(x, "");
        Bound.first("restore", 1, x.restore(1) ? 1 : 0);
        Bound.at("the later ones", 399, x.count(6));
    }

    private static void restore() {
        Bound.of("Promise 37", "They are as kept in place k (the tape, and what other calls told last, stays): true; "
            + "false: no such one, or nothing is kept there.");
        CombTable x = told();
        Bound.beyond("nothing is kept in 0", false, x.restore(0));
        Bound.beyond("nothing is kept in 1", false, x.restore(1));
        Due.minutes(x, "a ask;any hm;");
        Due.sentence(x, "by b");
        Bound.first("image", 1, x.image(1) ? 1 : 0);
        Bound.beyond("nothing is kept in 0", false, x.restore(0));
        Due.table(x, CHAIN);
        Due.minutes(x, "a p;a p;b p;");
        Bound.first("wholes", 1 + 1 + 0, x.wholes(1));
        Bound.first("mend", 1, x.mend());
        Bound.first("orders", 2, x.orders());
        Bound.first("road", 2, x.road(1, 0, 2));
        Bound.first("talk", -5, Due.talk(x, "b p;b p;"));
        Bound.first("feed", 20, x.feed(0x62792061, 0, 0, 0, 0));
        Bound.at("place 1", true, x.restore(1));
        Bound.at("the tape stays", 20, x.count(8));
        Bound.at("fault stays", 5, x.fault());
        Bound.at("why stays", 1, x.why());
        Bound.at("sure stays", 1, x.sure(0, 0));
        Bound.at("mended stays", 1, x.mended());
        Bound.at("orderAt stays", 2, x.orderAt(1));
        Bound.at("found stays", 16, x.found(1));
        Bound.at("TABLE", 7, x.count(1));
        Bound.at("TALK", 6, x.count(6));
        Bound.at("STATES of the TALK", 5, Due.word(x, 2, 5));
        Bound.at("THREADS of the TALK", 2, x.threads());
        Bound.at("minutes", 2, x.count(7));
        Bound.at("minutes with 'any'", NONE, x.mend());
        Bound.at("SENTENCE", 2, x.said(NONE));
        Bound.first("end", 1, x.end(4) ? 1 : 0);
        Bound.at("the tape stays", 1, x.sentence());
        Bound.beyond("place 2", false, x.restore(2));
        Bound.beyond("place -1", false, x.restore(-1));
        for (int k : OUTSIDE) {
            Bound.beyond("place " + k, false, x.restore(k));
        }
        Bound.in("place 1 again", true, x.restore(1));
        Bound.at("as kept", 2, x.said(NONE));
        Bound.at("its 0th", 1, x.said(0));
    }

    private static void count() {
        Bound.of("Promise 38", "0 PEOPLE, 1 KINDS, 2 'may', 3 K of 'comb' (how many), 4 by ranks (1, 0), 5 twice (1, 0), "
            + "6 WORDS SAID, 7 WORDS of the minutes, 8 bytes of the tape. NONE for another what.");
        CombTable x = Due.at(eightyWords() + "comb 1 2 3 4 5 6;ranks;may k k;may k l;");
        Bound.first("drawn", 400, x.drawn(400, 1));
        Bound.first("minutes", 24, Due.minutes(x, Bound.times("a k;", 24)));
        Due.feed(x, Bound.padded("", 940));
        int[] due = {8, 10, 2, 6, 1, 1, 400, 24, 940};
        for (int what = 0; what < 9; what++) {
            Bound.at("count(" + what + ")", due[what], x.count(what));
        }
        CombTable none = Due.at("who a 1;");
        int[] least = {1, 0, 0, 1, 0, 0, 0, 0, 0};
        for (int what = 0; what < 9; what++) {
            Bound.at("count(" + what + ") of the least", least[what], none.count(what));
        }
        Bound.beyond("9", NONE, x.count(9));
        Bound.beyond("-1", NONE, x.count(-1));
        for (int what : OUTSIDE) {
            Bound.beyond("" + what, NONE, x.count(what));
        }
        StringBuilder mays = new StringBuilder(tenKinds("", ""));
        for (int i = 0; i < 40; i++) {
            mays.append("may ").append((char) ('k' + i / 10)).append(' ').append((char) ('k' + i % 10)).append(';');
        }
        Bound.at("40 'may'", 40, Due.at(mays.toString()).count(2));
    }

    static void run() {
        lastCall();
        newObject();
        feed();
        end();
        table();
        fault();
        rank();
        kindTells();
        kind();
        say();
        wrong();
        may();
        undo();
        talk();
        why();
        word();
        wordNone();
        threads();
        thread();
        with();
        promised();
        minutes();
        wholes();
        sure();
        hangs();
        mend();
        mended();
        orders();
        orderAt();
        drawn();
        spoke();
        road();
        without();
        game();
        found();
        unlike();
        sentence();
        said();
        image();
        restore();
        count();
    }
}
