/** Each promise by its number: ordinary calls, the edges that the document names, wrong inputs. */
final class PromisesTest {
    private static final int NONE = CombTable.NONE;
    private static final int A = 0;
    private static final int B = 1;
    private static final int C = 2;
    private static final int ASK = 0;
    private static final int YES = 1;
    private static final int NO = 2;
    private static final int DID = 3;
    private static final int LIE = 4;
    private static final int GO = 5;
    private static final int HM = 6;
    private static final String TABLE = "who a 1;who b 2;who c 3;kind ask opens asks;kind yes grants 4;"
        + "kind no refuses;kind did keeps;kind lie breaks;kind go frees;kind hm opens;may yes ask;may no ask;"
        + "may did yes;may lie yes;may go yes;may hm hm;may hm ask;may hm yes;may ask hm;";
    /** Whatever is said here answers the WORD ahead of it and stands. */
    private static final String FREE = "who a 1;who b 1;who c 1;kind p opens;kind q opens;"
        + "may p p;may p q;may q p;may q q;comb 1;";

    private PromisesTest() {
    }

    private static void is(String call, long want, long got) {
        Due.is(call, want, got);
    }

    private static CombTable at(String table, String talk) {
        CombTable x = Due.at(table);
        is("talk of " + talk, talk.split(";").length, Due.talk(x, talk));
        return x;
    }

    private static void newObject() {
        CombTable x = new CombTable();
        int[] empty = {0, 0, 0, 1, 0, 0, 0, 0, 0};
        for (int what = 0; what < 9; what++) {
            is("1: count(" + what + ")", empty[what], x.count(what));
        }
        is("1: fault", 0, x.fault());
        is("1: why", 0, x.why());
        is("1: threads", 0, x.threads());
        is("1: mended", NONE, x.mended());
        is("1: orderAt", NONE, x.orderAt(0));
        is("1: sure", NONE, x.sure(0, 0));
        is("1: found", NONE, x.found(0));
        is("1: said", NONE, x.said(NONE));
        is("1: NONE", -1, NONE);
        is("1: an empty table is a TABLE", 0, x.table());
        is("1: an empty talk is a TALK", 0, x.talk());
        is("1: empty minutes", 0, x.minutes());
    }

    private static void feedAndEnd() {
        CombTable x = new CombTable();
        is("2: feed", 20, x.feed(0x77686f20, 0x6120313b, 0x6b696e64, 0x2070206f, 0x70656e73));
        is("2: feed", 40, x.feed(0x3b202020, 0x20202020, 0x20202020, 0x20202020, 0x2020207a));
        is("3: end", 1, x.end(39) ? 1 : 0);
        is("2: the highest byte first", 2, x.table());
        is("2: count(1)", 1, x.count(1));
        is("4: the tape is empty then", 0, x.count(8));
        for (int i = 1; i <= 47; i++) {
            is("2: feed " + i, 20 * i, x.feed(-1, i, i, i, i));
        }
        is("2: a 48th feed", NONE, x.feed(0, 0, 0, 0, 0));
        is("2: none came", 940, x.count(8));
        is("3: end beyond", 0, x.end(941) ? 1 : 0);
        is("3: end below 0", 0, x.end(-1) ? 1 : 0);
        is("3: neither changed it", 940, x.count(8));
        is("3: end at all", 1, x.end(940) ? 1 : 0);
        is("3: end", 1, x.end(921) ? 1 : 0);
        is("2: 941 would be too many", NONE, x.feed(0, 0, 0, 0, 0));
        is("3: end", 1, x.end(920) ? 1 : 0);
        is("2: 940 are not", 940, x.feed(0, 0, 0, 0, 0));
        is("3: end", 1, x.end(0) ? 1 : 0);
        is("3: end of nothing", 1, x.end(0) ? 1 : 0);
        is("3: end beyond nothing", 0, x.end(1) ? 1 : 0);
    }

    private static void tables() {
        CombTable x = at(TABLE, "a ask;");
        Due.minutes(x, "a ask;");
        Due.sentence(x, "by a");
        is("4: a FAULT", -7, Due.table(x, "who a 7;"));
        is("5: its kind", 2, x.fault());
        is("4: the tape is empty", 0, x.count(8));
        is("4: the TABLE before stays", 3, x.count(0));
        is("4: its TALK too", 1, x.count(6));
        is("4: its minutes too", 1, x.count(7));
        is("4: its SENTENCE too", 1, x.said(NONE));
        is("4: a TABLE", 3, Due.table(x, "comb 1 2 3;ranks;twice;"));
        is("5: none", 0, x.fault());
        is("4: it has no PEOPLE", 0, x.count(0));
        is("4: no KINDS", 0, x.count(1));
        is("4: no WORDS", 0, x.count(6));
        is("4: no minutes", 0, x.count(7));
        is("4: no SENTENCE", NONE, x.said(NONE));
        is("38: comb", 3, x.count(3));
        is("38: ranks", 1, x.count(4));
        is("38: twice", 1, x.count(5));
        is("4: the next TABLE", 1, Due.table(x, "who z 5;"));
        is("38: comb", 1, x.count(3));
        is("38: ranks", 0, x.count(4));
        is("38: twice", 0, x.count(5));
        is("5: fault of talk", -1, Due.talk(x, "1"));
        is("5: fault", 1, x.fault());
        is("5: fault of minutes", -1, Due.minutes(x, "y any;"));
        is("5: fault", 3, x.fault());
        is("5: fault of sentence", -6, Due.sentence(x, "by z z"));
        is("5: fault stays", 0, 0 * x.rank(0));
        is("5: fault", 1, x.fault());
        is("5: sentence", 1, Due.sentence(x, "by z"));
        is("5: fault", 0, x.fault());
    }

    private static void ranksAndKinds() {
        CombTable x = Due.at(TABLE);
        is("6: rank", 1, x.rank(A));
        is("6: rank", 3, x.rank(C));
        is("6: no such one", NONE, x.rank(3));
        is("6: no such one", NONE, x.rank(-1));
        int[][] kinds = {{1, 1, 0, 64}, {0, 2, 4, 1}, {0, 3, 0, 1}, {0, 4, 0, 2}, {0, 5, 0, 2}, {0, 6, 0, 2},
            {1, 0, 0, 67}};
        for (int k = 0; k < 7; k++) {
            for (int what = 0; what < 4; what++) {
                is("7: kind(" + k + ", " + what + ")", kinds[k][what], Due.kind(x, k, what));
            }
        }
        int[][] none = {{7, 0}, {-1, 0}, {0, 4}, {0, -1}, {Integer.MAX_VALUE, 0}, {0, Integer.MIN_VALUE}};
        for (int[] one : none) {
            is("7: no such ones", Due.THROWS, Due.kind(x, one[0], one[1]));
        }
        is("7: begins", 2, Due.kind(Due.at("kind p begins;"), 0, 0));
        is("7: N", 99, Due.kind(Due.at("kind p grants 99;"), 0, 2));
    }

    private static void saying() {
        CombTable x = Due.at(TABLE);
        is("8: NONE: no such WHO", NONE, x.say(3, ASK));
        is("8: NONE: no such WHO", NONE, x.say(-1, ASK));
        is("8: NONE: no such KIND", NONE, x.say(A, 7));
        is("9: NONE: no such KIND", NONE, x.wrong(A, -1));
        is("8: 2 neither opens nor begins", 2, x.say(A, YES));
        is("8: a WRONG one is not SAID", 0, x.count(6));
        is("9: 0", 0, x.wrong(A, ASK));
        is("9: it is not SAID", 0, x.count(6));
        is("8: said", 0, x.say(A, ASK));
        is("8: 1 the same WHO", 1, x.say(A, YES));
        is("8: 2 ahead of others", 2, x.say(B, YES));
        is("8: said", 0, x.say(B, HM));
        is("8: 3 may not answer", 3, x.say(C, ASK));
        is("8: 4 of its own WHO", 4, x.say(A, HM));
        is("8: 3 ahead of 4", 3, x.say(A, DID));
        is("8: said", 0, x.say(C, YES));
        is("8: said", 0, x.say(A, HM));
        is("8: 6 another one's promise", 6, x.say(B, DID));
        is("8: 6 another one's promise", 6, x.say(B, LIE));
        is("8: 6 not promised to it", 6, x.say(B, GO));
        is("8: 4 frees its own", 4, x.say(C, GO));
        is("9: may keep its own", 0, x.wrong(C, DID));
        is("9: may break its own", 0, x.wrong(C, LIE));
        is("8: kept", 0, x.say(C, DID));
        CombTable y = Due.at("who a 1;who b 1;kind p opens asks;kind q grants 1;kind r refuses;kind s keeps;"
            + "may q p;may r p;may s q;may r q;may q q;comb 1 1 2;twice;");
        is("8: asks", 0, y.say(A, 0));
        is("8: grants", 0, y.say(B, 1));
        is("8: 5 not open any more", 5, y.say(B, 2));
        is("8: 4 ahead of 5", 4, y.say(A, 2));
        is("8: 3 keeps what is asked", 3, y.say(A, 3));
        CombTable late = Due.at("who a 1;who b 1;who c 1;kind p opens asks;kind q grants 1;kind s keeps;kind f frees;"
            + "kind v opens;may q p;may s q;may f q;may v p;may v q;may v v;");
        is("8: late: " + late.say(A, 0) + late.say(C, 4) + late.say(B, 1) + late.say(A, 4), 4, late.count(6));
        is("8: 5 more than N behind", 5, late.say(B, 2));
        is("8: 5 more than N behind", 5, late.say(C, 3));
        CombTable open = Due.at("who a 1;who b 1;kind p opens grants 3;kind q begins frees;kind r begins refuses;");
        is("8: 5 grants nothing", 5, open.say(A, 0));
        is("8: 5 frees nothing", 5, open.say(A, 1));
        is("8: 5 refuses nothing", 5, open.say(A, 2));
    }

    private static void answers() {
        CombTable comb = at("who a 1;who b 2;kind p opens;may p p;comb 1 2 3;twice;", "a p;b p;a p;b p;b p;b p;");
        int[] heard = {NONE, NONE, NONE, 2, 2, 2};
        for (int t = 0; t < 6; t++) {
            is("14: comb, WORD " + t, heard[t], Due.word(comb, t, 2));
        }
        CombTable ranks = at("who a 1;who b 3;who c 2;kind p opens;may p p;comb 3 3 3;ranks;",
            "b p;a p;c p;a p;b p;");
        int[] ranked = {NONE, 0, 0, 2, 1};
        for (int t = 0; t < 5; t++) {
            is("14: ranks, WORD " + t, ranked[t], Due.word(ranks, t, 2));
        }
        CombTable none = at("who a 1;who b 1;kind p opens;may p p;", "a p;b p;");
        is("14: comb 2 without", NONE, Due.word(none, 1, 2));
        is("14: comb 2 without", 4, none.say(A, 0));
        CombTable begins = at("who a 1;who b 1;kind p begins;kind q;may q p;comb 1;", "a p;b p;a q;");
        is("14: begins ANSWERS none", NONE, Due.word(begins, 1, 2));
        is("14: begins a THREAD", 1, Due.word(begins, 1, 3));
        is("14: the answer is of it", 1, Due.word(begins, 2, 3));
    }

    private static void mayAndUndo() {
        CombTable x = Due.at(TABLE);
        is("10: may", 65, x.may(A));
        is("10: no such one", NONE, x.may(3));
        is("10: no such one", NONE, x.may(-1));
        x.say(A, ASK);
        is("10: the same WHO may not", 0, x.may(A));
        x.say(B, HM);
        is("10: may answer a", 1 << YES | 1 << NO | 1 << HM, x.may(C));
        is("10: nor itself", 0, x.may(A));
        x.say(C, YES);
        is("11: a STATE", 2, Due.word(x, 0, 5));
        is("11: undo", 2, x.undo());
        is("11: what it did is undone", 1, Due.word(x, 0, 5));
        is("11: THREADS", 2, x.threads());
        is("11: undo", 1, x.undo());
        is("11: THREADS", 1, x.threads());
        is("11: undo", 0, x.undo());
        is("11: none", NONE, x.undo());
        is("11: THREADS", 0, x.threads());
        CombTable y = at(TABLE, "a ask;b hm;c yes;a hm;c did;");
        is("11: kept", 5, Due.word(y, 2, 5));
        y.undo();
        is("11: open again", 4, Due.word(y, 2, 5));
        y.say(B, HM);
        y.say(C, HM);
        y.say(B, HM);
        is("11: not LAPSED yet", 4, Due.word(y, 2, 5));
        y.say(A, HM);
        is("11: said " + y.count(6), 7, y.count(6));
    }

    private static void talks() {
        CombTable x = Due.at(TABLE);
        is("12: talk", 5, Due.talk(x, "a ask;b hm;c yes;a hm;c lie;"));
        is("12: tape", 0, x.count(8));
        is("12: a FAULT", -12, Due.talk(x, "a ask;b hm;c did;"));
        is("13: why", 3, x.why());
        is("12: the TALK before stays", 5, x.count(6));
        is("12: with its STATES", 6, Due.word(x, 2, 5));
        is("13: why stays", 3, x.why() + 0 * x.say(A, 0));
        is("12: another FAULT", -1, Due.talk(x, "z ask;"));
        is("13: no FAULT 5", 0, x.why());
        is("12: WRONG", -7, Due.talk(x, "a ask;a hm;"));
        is("13: why", 1, x.why());
        is("12: a TALK", 1, Due.talk(x, "b ask;"));
        is("13: none", 0, x.why());
        is("12: from no WORDS on", 1, x.count(6));
        is("12: of it", 1, Due.word(x, 0, 0));
        String[] wrong = {"b yes;", "a ask;b hm;a hm;", "a ask;b hm;c yes;a ask;b did;"};
        int[] why = {2, 4, 6};
        for (int i = 0; i < 3; i++) {
            is("12: WRONG", 1, Due.talk(x, wrong[i]) < 0 ? 1 : 0);
            is("13: why of " + wrong[i], why[i], x.why());
        }
        Due.talk(x, "a ask;b hm;c yes;a hm;b did;");
        is("13: why", 6, x.why());
        Due.talk(x, "a ask;b hm;c no;a hm;b hm;a hm;c no;");
        is("13: why", 3, x.why());
        is("12: why stays by minutes()", 3, x.why() + 0 * Due.minutes(x, "a any;"));
    }

    private static void words() {
        CombTable x = at(TABLE, "a ask;b hm;c yes;a hm;c did;b ask;");
        int[][] due = {
            {A, ASK, NONE, 0, 0, 2, NONE, NONE},
            {B, HM, NONE, 1, 0, 0, NONE, NONE},
            {C, YES, 0, 0, 1, 5, A, 6},
            {A, HM, 1, 1, 1, 0, NONE, NONE},
            {C, DID, 2, 0, 2, 0, NONE, NONE},
            {B, ASK, 3, 1, 2, 1, NONE, NONE}};
        for (int t = 0; t < 6; t++) {
            for (int what = 0; what < 8; what++) {
                is("14: word(" + t + ", " + what + ")", due[t][what], Due.word(x, t, what));
            }
        }
        int[][] none = {{6, 0}, {-1, 0}, {0, 8}, {0, -1}, {399, 0}, {Integer.MIN_VALUE, 0}, {0, Integer.MAX_VALUE}};
        for (int[] one : none) {
            is("14: no such ones", Due.THROWS, Due.word(x, one[0], one[1]));
        }
    }

    private static void lists() {
        CombTable x = at(TABLE, "a ask;b hm;c yes;a hm;c did;b ask;");
        is("15: threads", 2, x.threads());
        is("16: thread(0)", 3, x.thread(0, NONE));
        is("16: its 0th", 0, x.thread(0, 0));
        is("16: its last", 4, x.thread(0, 2));
        is("16: none such", NONE, x.thread(0, 3));
        is("16: none such", NONE, x.thread(0, -2));
        is("16: its last", 5, x.thread(1, 2));
        is("16: none such", NONE, x.thread(2, NONE));
        is("16: none such", NONE, x.thread(-1, NONE));
        is("17: with(1)", 1, x.with(1, NONE));
        is("17: the 0th", 5, x.with(1, 0));
        is("17: with(2)", 0, x.with(2, 0));
        is("17: with(3)", 0, x.with(3, NONE));
        is("17: with(5)", 2, x.with(5, 0));
        is("17: none such", NONE, x.with(5, 1));
        is("17: none such", NONE, x.with(5, -2));
        is("17: no such STATE", NONE, x.with(0, NONE));
        is("17: no such STATE", NONE, x.with(9, NONE));
        is("18: promised", 1, x.promised(C, A, 0));
        is("18: kept", 1, x.promised(C, A, 5));
        is("18: open", 0, x.promised(C, A, 4));
        is("18: the other way", 0, x.promised(A, C, 0));
        is("18: no such STATE", NONE, x.promised(C, A, 3));
        is("18: no such STATE", NONE, x.promised(C, A, 9));
        is("18: no such one", NONE, x.promised(3, A, 0));
        is("18: no such one", NONE, x.promised(A, -1, 0));
        x.undo();
        x.undo();
        is("18: open", 1, x.promised(C, A, 4));
        x.say(B, HM);
        x.say(C, HM);
        x.say(A, HM);
        is("17: not lapsed at N", 0, x.with(8, NONE));
        is("38: seven WORDS", 7, x.count(6));
        x.undo();
        CombTable y = Due.at("who a 1;who b 1;who c 1;kind p opens asks;kind q grants 2;kind v opens;kind f frees;"
            + "may q p;may v v;may v p;may v q;may f q;comb 1;");
        is("8: talk", 2, Due.talk(y, "a p;b q;"));
        y.say(A, 2);
        y.say(B, 2);
        is("17: two behind: open", 4, Due.word(y, 1, 5));
        y.say(A, 2);
        is("17: three behind: LAPSED", 8, Due.word(y, 1, 5));
        is("18: LAPSED", 1, y.promised(B, A, 8));
        is("18: any", 1, y.promised(B, A, 0));
        is("14: it promises still", A, Due.word(y, 1, 6));
        is("14: due", 3, Due.word(y, 1, 7));
        is("28: spoke", 3, y.spoke(A, NONE));
        is("28: spoke", 3, y.spoke(NONE, 2));
        is("28: spoke", 2, y.spoke(A, 2));
        is("28: all", 5, y.spoke(NONE, NONE));
        is("28: none", 0, y.spoke(C, NONE));
        is("28: no such WHO", NONE, y.spoke(3, NONE));
        is("28: no such WHO", NONE, y.spoke(-2, NONE));
        is("28: no such KIND", NONE, y.spoke(NONE, 4));
        is("28: no such KIND", NONE, y.spoke(NONE, -2));
    }

    private static void tornMinutes() {
        CombTable x = Due.at(TABLE);
        is("19: minutes", 3, Due.minutes(x, "a ask;any hm;c any;"));
        is("38: WORDS of the minutes", 3, x.count(7));
        is("20: wholes", 3, x.wholes(0));
        is("21: WHO of WORD 1", 1 << B, x.sure(1, 0));
        is("21: KIND of WORD 2", 1 << YES | 1 << NO | 1 << HM, x.sure(2, 1));
        is("21: STATE of WORD 0", 1 << 1 | 1 << 2 | 1 << 3, x.sure(0, 2));
        is("21: STATE of WORD 2", 1 << 0 | 1 << 4, x.sure(2, 2));
        is("21: no such WORD", NONE, x.sure(3, 0));
        is("21: no such WORD", NONE, x.sure(-1, 0));
        is("21: no such one", NONE, x.sure(0, 3));
        is("21: no such one", NONE, x.sure(0, -1));
        is("20: another one", NONE, x.wholes(3));
        is("20: another one", NONE, x.wholes(-1));
        is("19: a FAULT", -7, Due.minutes(x, "a ask;zz any;"));
        is("19: the minutes before stay", 3, x.count(7));
        is("21: what was sure stays", 1 << A, x.sure(0, 0));
        is("20: one left out", 8, x.wholes(1));
        is("21: two WORDS are left", NONE, x.sure(2, 0));
        is("21: WHO of WORD 0", 1 << A | 1 << B, x.sure(0, 0));
        is("20: two exchanged", 4, x.wholes(2));
        is("21: as they were numbered", 1 << HM | 1 << ASK, x.sure(0, 1));
        is("20: too many", 4, Due.minutes(x, "any any;any any;any any;any any;"));
        is("20: TOO MANY", -2, x.wholes(0));
        is("20: TOO MANY", -2, x.wholes(1));
        is("20: another one, looked at first", NONE, x.wholes(3));
        is("22: TOO MANY", -2, x.hangs());
        is("21: what was sure stays", 1 << HM | 1 << ASK, x.sure(0, 1));
        is("19: none", 0, x.minutes());
        is("20: one", 1, x.wholes(0));
        is("21: of no WORDS", NONE, x.sure(0, 0));
        is("20: none", 0, x.wholes(1));
        is("20: none", 0, x.wholes(2));
        is("22: hangs", 0, x.hangs());
        is("19: one WORD", 1, Due.minutes(x, "a hm;"));
        is("20: left out, one of no WORDS", 1, x.wholes(1));
        is("21: of no WORDS", NONE, x.sure(0, 0));
        is("20: no neighbours", 0, x.wholes(2));
        is("21: there are none", NONE, x.sure(0, 0));
    }

    private static void tornEdges() {
        String ten = "who a 1;kind k begins;kind l begins;kind m begins;kind n begins;kind o begins;kind p begins;"
            + "kind q begins;kind r begins;kind s begins;kind t begins;twice;";
        CombTable x = Due.at(ten);
        is("20: 10000 ways", 4, Due.minutes(x, "a any;a any;a any;a any;"));
        is("20: not too many", 10000, x.wholes(0));
        is("22: 100000 are not too many", 0, x.hangs());
        is("22: of no WORD without 'any'", 0, x.hangs());
        is("20: with a fixed WORD", 5, Due.minutes(x, "a any;a k;a any;a any;a any;"));
        is("22: hangs on it", 2, x.hangs());
        is("20: 100000 ways", 5, Due.minutes(x, "a any;a any;a any;a any;a any;"));
        is("20: TOO MANY", -2, x.wholes(0));
        CombTable pair = Due.at(ten + "who b 1;");
        is("20: 20000 ways", 4, Due.minutes(pair, "any any;a any;a any;a any;"));
        is("20: are not too many", 20000, pair.wholes(0));
        is("22: 400000 are TOO MANY", -2, pair.hangs());
        is("20: 40000 ways", 4, Due.minutes(pair, "any any;any any;a any;a any;"));
        is("20: TOO MANY", -2, pair.wholes(0));
        CombTable two = Due.at(TABLE);
        is("22: minutes", 3, Due.minutes(two, "a ask;b hm;c yes;"));
        is("22: WORD 0 alone could not have been another", 6, two.hangs());
        is("22: minutes", 2, Due.minutes(two, "a yes;any hm;"));
        is("22: no WHOLES", NONE, two.hangs());
        CombTable all = Due.at("who a 1;who b 1;kind p opens;may p p;");
        is("22: minutes", 3, Due.minutes(all, "a p;b p;b any;"));
        is("22: no WHOLES", NONE, all.hangs());
        is("22: minutes", 2, Due.minutes(all, "a p;b p;"));
        is("22: by turns alone", 0, all.hangs());
        is("22: minutes", 2, Due.minutes(all, "a p;any p;"));
        is("22: it does not hang on a half torn one", 1, all.hangs());
        CombTable equal = Due.at("who a 1;who b 1;kind p begins;twice;");
        is("20: minutes", 3, Due.minutes(equal, "a p;a p;a p;"));
        is("20: counted for each", 3, equal.wholes(1));
        is("20: counted for each", 2, equal.wholes(2));
        CombTable eight = Due.at("who a 1;who b 1;kind p begins;twice;");
        is("22: eight 'any'", 9, Due.minutes(eight, "any p;any p;any p;any p;any p;any p;any p;any p;a p;"));
        is("20: wholes", 256, eight.wholes(0));
        is("22: a ninth one torn", 256, eight.hangs());
    }

    private static void mendedMinutes() {
        CombTable x = Due.at(TABLE);
        is("24: ahead of any", NONE, x.mended());
        is("23: no minutes", 0, x.mend());
        is("24: nothing", 0, x.mended());
        is("23: minutes", 4, Due.minutes(x, "a ask;a hm;b hm;c lie;"));
        is("23: mend", 2, x.mend());
        is("24: the least as bits", 9, x.mended());
        is("23: 'any'", 1, Due.minutes(x, "a any;"));
        is("23: 'any' in them", NONE, x.mend());
        is("23: 'any'", 1, Due.minutes(x, "any hm;"));
        is("23: 'any' in them", NONE, x.mend());
        is("24: stays", 9, x.mended());
        StringBuilder many = new StringBuilder();
        for (int i = 0; i < 14; i++) {
            many.append("a hm;");
        }
        is("23: 14", 14, Due.minutes(x, many.toString()));
        is("23: all but one", 13, x.mend());
        is("24: the last one stays", (1 << 13) - 1, x.mended());
        is("23: 15", 15, Due.minutes(x, many + "a hm;"));
        is("23: too many", NONE, x.mend());
        is("24: stays", (1 << 13) - 1, x.mended());
        is("23: all", 2, Due.minutes(x, "a yes;b no;"));
        is("23: all of them", 2, x.mend());
        is("24: all of them", 3, x.mended());
    }

    private static void ordersOfMinutes() {
        CombTable x = Due.at("who a 1;who b 1;kind p opens asks;kind q grants 2;kind r opens;may q p;may r q;comb 1;");
        is("26: ahead of any", NONE, x.orderAt(0));
        is("25: minutes", 3, Due.minutes(x, "a r;b q;a p;"));
        is("25: one of the ORDERS", 1, x.orders());
        int[] order = {2, 1, 0};
        for (int i = 0; i < 3; i++) {
            is("26: orderAt(" + i + ")", order[i], x.orderAt(i));
        }
        is("26: none such", NONE, x.orderAt(3));
        is("26: none such", NONE, x.orderAt(-1));
        is("25: minutes", 2, Due.minutes(x, "a r;b r;"));
        is("25: none", 0, x.orders());
        is("26: stays", 2, x.orderAt(0));
        is("25: 'any'", 1, Due.minutes(x, "a any;"));
        is("25: 'any' in them", NONE, x.orders());
        is("25: none", 0, x.minutes());
        is("25: one, of no WORDS", 1, x.orders());
        is("26: of no WORDS", NONE, x.orderAt(0));
        CombTable y = Due.at("who a 1;who b 1;who c 1;kind p opens asks;kind q grants 2;kind r opens;may q p;may r q;comb 1;");
        is("25: minutes", 3, Due.minutes(y, "b q;c r;a p;"));
        is("25: one", 1, y.orders());
        is("26: first the one at place 2", 2, y.orderAt(0));
        is("26: then that at place 0", 0, y.orderAt(1));
        is("26: then that at place 1", 1, y.orderAt(2));
        CombTable free = Due.at(FREE + "twice;");
        is("25: minutes", 7, Due.minutes(free, "a p;b q;c p;a q;b p;c q;a p;"));
        is("25: some", 1, free.orders() > 0 ? 1 : 0);
        is("25: minutes", 8, Due.minutes(free, "a p;b q;c p;a q;b p;c q;a p;b p;"));
        is("25: too many", NONE, free.orders());
    }

    private static void drawing() {
        CombTable x = new CombTable();
        is("27: nothing to say", 0, x.drawn(5, 1));
        is("27: n", NONE, x.drawn(0, 1));
        is("27: n", NONE, x.drawn(401, 1));
        is("27: n", NONE, x.drawn(-1, 1));
        CombTable y = Due.at(FREE);
        is("27: drawn", 3, y.drawn(3, 12345));
        int seed = 12345;
        int last = NONE;
        for (int t = 0; t < 3; t++) {
            int all = last == NONE ? 6 : 4;
            seed = seed * 1103515245 + 12345;
            int draw = (seed >>> 8) % all;
            int who = draw / 2;
            who = last != NONE && who >= last ? who + 1 : who;
            is("27: WHO " + t, who, Due.word(y, t, 0));
            is("27: KIND " + t, draw % 2, Due.word(y, t, 1));
            last = who;
        }
        is("27: negative seeds", 397, y.drawn(397, -7));
        is("38: 400 WORDS", 400, y.count(6));
        is("27: it ends with 400 WORDS", 0, y.drawn(1, 1));
        is("8: there are 400", NONE, y.say(A, 0));
        is("9: there are 400", NONE, y.wrong(A, 0));
        is("10: there are 400", 0, y.may(A) + y.may(B) + y.may(C));
        is("29: nor a ROAD on", NONE, y.road(399, 1, 1));
        is("11: undo", 399, y.undo());
        is("27: it ends with 400 WORDS", 1, y.drawn(20, 1));
        is("27: 400 at once", 400, Due.at(FREE).drawn(400, 9));
        CombTable z = Due.at("who a 1;who b 1;kind p opens;");
        is("27: it ends where there is none", 2, z.drawn(9, 3));
    }

    private static void roads() {
        CombTable x = at(TABLE, "a ask;b hm;c yes;");
        is("29: road", 2, x.road(2, 5, 3));
        is("32: found", 16 * A + ASK, x.found(0));
        is("32: found", 16 * C + DID, x.found(1));
        is("32: none such", NONE, x.found(2));
        is("32: none such", NONE, x.found(-1));
        is("29: there is none", NONE, x.road(2, 5, 1));
        is("32: stays", 16 * C + DID, x.found(1));
        is("29: TOO MANY", -2, x.road(2, 5, 5));
        is("29: no such STATE", -3, x.road(2, 9, 1));
        is("29: no such STATE", -3, x.road(2, -1, 1));
        is("29: no such w", -3, x.road(400, 5, 1));
        is("29: no such w", -3, x.road(-1, 5, 1));
        is("29: no such n", -3, x.road(2, 5, 0));
        is("29: no such n", -3, x.road(2, 5, 9));
        is("30: without c", NONE, x.without(C, 2, 5, 3));
        is("30: without b", 2, x.without(B, 2, 6, 3));
        is("32: stays", 16 * C + DID, x.found(1));
        is("30: TOO MANY", -2, x.without(B, 2, 6, 5));
        is("30: no such WHO", -3, x.without(3, 2, 6, 3));
        is("30: no such WHO", -3, x.without(-1, 2, 6, 3));
        is("30: no such STATE", -3, x.without(B, 2, 9, 3));
        is("30: no such w", -3, x.without(B, 400, 5, 3));
        is("30: no such n", -3, x.without(B, 2, 6, 0));
        is("29: a WORD SAID then", 1, x.road(3, 1, 2));
        is("32: found", 16 * A + ASK, x.found(0));
        is("32: no more", NONE, x.found(1));
        is("29: it is so", 0, x.road(0, 2, 1));
        is("32: of no WORDS", NONE, x.found(0));
        is("29: neither", 0, x.road(1, 0, 1));
        is("30: it is so", 0, x.without(A, 0, 2, 1));
        is("38: nothing is SAID", 3, x.count(6));
        CombTable y = Due.at("who a 1;who b 1;kind p opens asks;kind q grants 1;may q p;may p q;may p p;comb 1;");
        is("29: lapses", 4, y.road(1, 8, 8));
        int[] road = {0, 17, 0, 16};
        for (int i = 0; i < 4; i++) {
            is("32: found(" + i + ")", road[i], y.found(i));
        }
    }

    private static void games() {
        CombTable x = at(TABLE, "a ask;b hm;");
        is("31: c refuses", 1, x.game(1 << C, 0, 3, 2));
        is("31: c grants", 1, x.game(1 << C, 0, 2, 2));
        is("31: b can't", NONE, x.game(1 << B, 0, 2, 2));
        is("31: it is so", 0, x.game(1 << C, 0, 1, 1));
        is("31: all of them", -3, x.game(7, 0, 2, 2));
        is("31: none of them", -3, x.game(0, 0, 2, 2));
        is("31: bits that are none", -3, x.game(8, 0, 2, 2));
        is("31: bits that are none", -3, x.game(9, 0, 2, 2));
        is("31: bits that are none", -3, x.game(-1, 0, 2, 2));
        is("31: no WORD there now", -3, x.game(1, 2, 0, 1));
        is("31: no WORD there now", -3, x.game(1, -1, 0, 1));
        is("31: no such STATE", -3, x.game(1, 0, 9, 1));
        is("31: no such STATE", -3, x.game(1, 0, -1, 1));
        is("31: no such n", -3, x.game(1, 0, 2, 0));
        is("31: no such n", -3, x.game(1, 0, 2, 9));
        is("31: TOO MANY", -2, x.game(1, 0, 2, 5));
        is("38: nothing is SAID", 2, x.count(6));
        CombTable y = Due.at("who a 1;who b 1;kind p opens asks;kind q grants 2;kind v opens;may q p;may v v;may v q;"
            + "comb 1;");
        is("31: talk", 2, Due.talk(y, "a p;b q;"));
        is("31: the others can't help it", 3, y.game(1 << A, 1, 8, 3));
        is("31: in two it can't be had", NONE, y.game(1 << A, 1, 8, 2));
        is("31: b SAID the WORD ahead", NONE, y.game(1 << B, 1, 8, 5));
        CombTable z = Due.at("who a 1;who b 1;kind p opens asks;kind q grants 2;kind v opens;kind s keeps;may q p;"
            + "may v v;may v q;may s q;comb 1 1 1 2;");
        is("31: talk", 2, Due.talk(z, "a p;b q;"));
        is("31: b keeps it", NONE, z.game(1 << A, 1, 8, 4));
        is("31: b has no other WORD", 2, z.game(1 << A, 1, 5, 4));
        is("29: together they can", 2, z.road(1, 5, 4));
    }

    /** 12 to the 5th are not too many, 12 to the 6th are; up to 4 to the 8th. */
    private static void bounds() {
        CombTable x = Due.at("who a 1;who b 1;who c 1;kind p begins;kind q begins asks;kind r;kind s grants 9;may s q;");
        is("29: 248832 ways", 5, x.road(4, 0, 5));
        is("29: TOO MANY", -2, x.road(4, 0, 6));
        is("30: 248832 ways", 5, x.without(B, 4, 0, 5));
        is("30: TOO MANY", -2, x.without(B, 4, 0, 6));
        x.say(A, 1);
        is("31: 248832 ways", NONE, x.game(1 << B, 0, 2, 5));
        is("31: TOO MANY", -2, x.game(1 << B, 0, 2, 6));
        x.image(0);
        is("33: 248832 ways", 0, x.unlike(0, 5));
        is("33: TOO MANY", -2, x.unlike(0, 6));
        CombTable y = Due.at("who a 1;who b 1;kind p opens asks;kind q grants 1;may q p;may p q;may p p;comb 1;");
        is("29: 8 WORDS", 8, y.road(7, 1, 8));
        is("30: 8 WORDS", NONE, y.without(A, 7, 1, 8));
        y.say(A, 0);
        is("31: 8 WORDS", NONE, y.game(1 << A, 0, 2, 8));
        is("31: 8 WORDS", 1, y.game(1 << B, 0, 2, 8));
        CombTable one = Due.at("who a 1;kind p begins;twice;");
        one.image(0);
        is("33: one way", 0, one.unlike(0, 6));
        is("29: one way", 8, one.road(7, 0, 8));
    }

    /** What is looked for in minutes starts from no WORDS, whatever has been read ahead of it. */
    private static void afterTalks() {
        String table = "who a 1;who b 1;kind p opens;kind q;may q p;comb 1;";
        for (int i = 0; i < 6; i++) {
            CombTable x = Due.at(table);
            x.image(0);
            is("19: minutes", 2, Due.minutes(x, "a p;b q;"));
            is("12: talk", i % 2 == 0 ? 1 : -1 - 5, Due.talk(x, i % 2 == 0 ? "a p;" : "a p; a q;"));
            int got = i == 0 ? x.wholes(0) : i == 1 ? x.hangs() : i == 2 ? x.mend() : i == 3 ? x.orders()
                : i == 4 ? x.unlike(0, 3) : x.mend();
            is("after a talk, " + i, new int[] {1, 0, 0, 1, 0, 0}[i], got);
            is("38: the TALK stays", i % 2 == 0 ? 1 : 0, x.count(6));
        }
        CombTable y = Due.at(table);
        is("19: minutes", 2, Due.minutes(y, "a p;b q;"));
        is("12: talk", 1, Due.talk(y, "b p;"));
        is("25: orders", 1, y.orders());
    }

    /** The farthest that a WORD may ANSWER: the next one, six behind, is the last that does. */
    private static void farthest() {
        String table = "who a 1;who b 1;who c 6;kind p opens asks;kind q grants 9;kind v begins;kind s keeps;"
            + "may q p;may s q;comb 6 1 1 1 1 1;";
        CombTable x = at(table, "a p;b v;a v;b v;a v;b v;");
        is("29: six behind", 1, x.road(0, 2, 2));
        is("31: six behind", 1, x.game(1 << C, 0, 2, 2));
        x.say(A, 2);
        is("29: seven behind", NONE, x.road(0, 2, 2));
        is("31: seven behind", NONE, x.game(1 << C, 0, 2, 2));
        String talk = "a p;b v;a v;b v;a v;b v;c q;b v;a v;b v;a v;b v;";
        CombTable y = at(table, talk);
        is("29: kept, six behind", 1, y.road(6, 5, 2));
        y.say(A, 2);
        is("29: kept, seven behind", NONE, y.road(6, 5, 2));
        CombTable z = at(table.replace("grants 9", "grants 6"), talk);
        is("29: kept at N", 1, z.road(6, 5, 2));
        is("29: LAPSED behind it", 2, z.road(6, 8, 2));
        CombTable late = at(table.replace("grants 9", "grants 5"), talk);
        is("29: behind N", NONE, late.road(6, 5, 2));
        is("29: but LAPSED", 1, late.road(6, 8, 2));
        CombTable ranks = at(table + "ranks;", "a p;b v;a v;b v;a v;b v;");
        is("29: six behind by RANK", 1, ranks.road(0, 2, 2));
    }

    private static void unlikes() {
        CombTable x = Due.at(FREE);
        is("33: nothing is kept there", -3, x.unlike(0, 2));
        is("36: image", 1, x.image(0) ? 1 : 0);
        is("33: they are like", 0, x.unlike(0, 3));
        is("32: ahead of any", NONE, x.found(0));
        is("33: nothing is kept there", -3, x.unlike(1, 2));
        is("33: no such place", -3, x.unlike(2, 2));
        is("33: no such place", -3, x.unlike(-1, 2));
        is("33: no such n", -3, x.unlike(0, 0));
        is("33: no such n", -3, x.unlike(0, 7));
        is("33: 6 to the 6th", 0, x.unlike(0, 6));
        is("4: a TABLE", 12, Due.table(x, FREE + "kind r opens;may r q;"));
        is("33: 9 to the 6th", -2, x.unlike(0, 6));
        is("33: one WORD that the other has not", 1, x.unlike(0, 5));
        is("32: found", 16 * A + 2, x.found(0));
        x.image(1);
        Due.table(x, FREE);
        is("33: the other way round", 1, x.unlike(1, 2));
        is("32: found", 16 * A + 2, x.found(0));
        is("33: TOO MANY by the more KINDS of both", -2, x.unlike(1, 6));
        Due.table(x, FREE.replace("may q q;", ""));
        is("33: two WORDS", 2, x.unlike(0, 2));
        is("32: found", 16 * A + 1, x.found(0));
        is("32: found", 16 * B + 1, x.found(1));
        is("33: in one WORD they are like", 0, x.unlike(0, 1));
        is("32: stays", 16 * B + 1, x.found(1));
        Due.table(x, FREE + "twice;");
        is("33: twice", 0, x.unlike(0, 1));
        is("33: a WORD of its own WHO is WRONG", 0, x.unlike(0, 4));
        Due.table(x, FREE.replace("comb 1", "comb 2"));
        is("33: comb", 3, x.unlike(0, 3));
        is("32: found", 16 * A, x.found(2));
    }

    private static void sentences() {
        CombTable x = at(TABLE, "a ask;b hm;c yes;a hm;c did;b ask;");
        is("35: no SENTENCE", NONE, x.said(NONE));
        is("35: no SENTENCE", NONE, x.said(0));
        String[] texts = {"by a", "to a", "is hm", "place=3", "place<2", "place>3", "thread=1", "depth=2", "depth>0",
            "state=5", "state>0", "not by a", "by a or by b", "by a and is hm", "by a or by b and is hm",
            "(by a or by b) and is hm", "not by a and not by b", "not (by a and is hm)", "not not by c",
            "by a and is hm or by c and is did", "place = 999", "by b or is did or is yes and by c or place<1"};
        int[] ones = {1, 1, 1, 1, 1, 1, 1, 1, 1, 1, 1, 2, 2, 2, 3, 4, 4, 4, 3, 4, 1, 5};
        int[] bits = {0x09, 0x24, 0x0a, 0x08, 0x03, 0x30, 0x2a, 0x30, 0x3c, 0x04, 0x25, 0x36, 0x2b, 0x08, 0x0b, 0x0a,
            0x14, 0x37, 0x14, 0x18, 0, 0x37};
        for (int i = 0; i < texts.length; i++) {
            is("34: " + texts[i], ones[i], Due.sentence(x, texts[i]));
            int seen = 0;
            for (int t = 0; t < 6; t++) {
                if ((bits[i] >> t & 1) != 0) {
                    is("35: the " + seen + "th by " + texts[i], t, x.said(seen));
                    seen++;
                }
            }
            is("35: how many by " + texts[i], seen, x.said(NONE));
            is("35: none such by " + texts[i], NONE, x.said(seen));
            is("35: none such by " + texts[i], NONE, x.said(-2));
        }
        Due.sentence(x, "by b");
        is("34: a FAULT", -4, Due.sentence(x, "by zz"));
        is("34: the SENTENCE before stays", 2, x.said(NONE));
        is("11: undo", 5, x.undo());
        is("35: of WORDS SAID", 1, x.said(NONE));
    }

    private static void images() {
        CombTable x = at(TABLE, "a ask;b hm;c yes;");
        Due.minutes(x, "a any;b hm;");
        Due.sentence(x, "by a");
        is("37: nothing is kept there", 0, x.restore(0) ? 1 : 0);
        is("36: image", 1, x.image(0) ? 1 : 0);
        is("36: no such one", 0, x.image(2) ? 1 : 0);
        is("36: no such one", 0, x.image(-1) ? 1 : 0);
        is("20: wholes", 2, x.wholes(0));
        is("29: road", 2, x.road(2, 5, 3));
        Due.table(x, FREE);
        x.image(1);
        is("37: no such one", 0, x.restore(2) ? 1 : 0);
        is("37: no such one", 0, x.restore(-1) ? 1 : 0);
        is("2: feed", 20, x.feed(0x6279207a, 0, 0, 0, 0));
        is("37: restore", 1, x.restore(0) ? 1 : 0);
        is("37: the tape stays", 20, x.count(8));
        is("37: PEOPLE", 3, x.count(0));
        is("37: KINDS", 7, x.count(1));
        is("37: 'may'", 9, x.count(2));
        is("37: the TALK", 3, x.count(6));
        is("37: its STATES", 4, Due.word(x, 2, 5));
        is("37: its THREADS", 2, x.threads());
        is("37: the minutes", 2, x.count(7));
        is("37: the SENTENCE", 1, x.said(NONE));
        is("37: what was sure", 1 << A, x.sure(0, 0));
        is("37: what was found", 16 * C + DID, x.found(1));
        is("37: the NAMES", 0, 0 * x.talk() + Due.talk(x, ""));
        is("37: the NAMES", 2, Due.talk(x, "b ask;c hm;"));
        is("37: what is kept stays", 1, x.restore(0) ? 1 : 0);
        is("37: what is kept stays", 3, x.count(6));
        is("37: the other place", 1, x.restore(1) ? 1 : 0);
        is("37: the other place", 2, x.count(1));
        is("37: its SENTENCE: none", NONE, x.said(NONE));
        is("37: its minutes: none", 0, x.count(7));
    }

    private static void counts() {
        CombTable x = at("who a 1;who b 1;kind p opens;may p p;comb 1 2 3 4;ranks;twice;", "a p;");
        Due.minutes(x, "a p;any any;");
        x.feed(1, 2, 3, 4, 5);
        int[] due = {2, 1, 1, 4, 1, 1, 1, 2, 20};
        for (int what = 0; what < 9; what++) {
            is("38: count(" + what + ")", due[what], x.count(what));
        }
        is("38: another what", NONE, x.count(9));
        is("38: another what", NONE, x.count(-1));
    }

    public static void main(String[] args) {
        newObject();
        feedAndEnd();
        tables();
        ranksAndKinds();
        saying();
        answers();
        mayAndUndo();
        talks();
        words();
        lists();
        tornMinutes();
        tornEdges();
        mendedMinutes();
        ordersOfMinutes();
        drawing();
        roads();
        games();
        farthest();
        bounds();
        afterTalks();
        unlikes();
        sentences();
        images();
        counts();
        Due.close("PromisesTest");
    }
}
