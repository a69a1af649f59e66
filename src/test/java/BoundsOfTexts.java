/** What Terms 1 names as boundaries: TOKENS, the text of a TABLE, its FAULTS. */
final class BoundsOfTexts {
    private static final String[] RESERVED = {"who", "kind", "may", "comb", "ranks", "twice", "opens", "begins",
        "asks", "grants", "refuses", "keeps", "breaks", "frees", "any", "or", "and", "not", "by", "to", "is", "place",
        "thread", "depth", "state"};
    private static final String ONE = "who a 1;kind p opens;";

    private BoundsOfTexts() {
    }

    private static void in(String text, String want) {
        Bound.in("table of \"" + text + "\"", want, Bound.table(text));
    }

    private static void at(String text, String want) {
        Bound.at("table of \"" + text + "\"", want, Bound.table(text));
    }

    private static void beyond(String text, String want) {
        Bound.beyond("table of \"" + text + "\"", want, Bound.table(text));
    }

    private static String people(int n) {
        StringBuilder text = new StringBuilder();
        for (int i = 0; i < n; i++) {
            text.append("who ").append((char) ('a' + i)).append(" 1;");
        }
        return text.toString();
    }

    private static String kinds(int n) {
        StringBuilder text = new StringBuilder();
        for (int i = 0; i < n; i++) {
            text.append("kind ").append((char) ('k' + i)).append(";");
        }
        return text.toString();
    }

    private static String mays(int n) {
        StringBuilder text = new StringBuilder(kinds(10));
        for (int i = 0; i < n; i++) {
            text.append("may ").append((char) ('k' + i / 10)).append(' ').append((char) ('k' + i % 10)).append(';');
        }
        return text.toString();
    }

    private static void blanks() {
        Bound.of("Terms 1", "with blanks (32, 10) between them or not");
        in("comb 1 2;twice;", "2");
        at(" \n who\na  1\n ; \ntwice ; \n", "2");
        at("\n \n", "0");
        for (char c : new char[] {0, 9, 11, 13, 31, 33, 127, 160, 255}) {
            beyond("who" + c + "a 1;", "FAULT 1 at 3");
            beyond("who a 1;" + c, "FAULT 1 at 8");
        }
    }

    private static void words() {
        Bound.of("Terms 1", "WORDS: small letters, 1 to 7");
        at("who a 1;", "1");
        at("who z 1;", "1");
        in("who abcdef 1;", "1");
        at("who abcdefg 1;", "1");
        at("who zzzzzzz 1;", "1");
        beyond("who abcdefgh 1;", "FAULT 1 at 4");
        beyond("who 1;", "FAULT 1 at 4");
        for (char c : new char[] {'`', '{', 'A', 'Z', '@', '_', 0, 225, 255}) {
            beyond("who " + c + " 1;", "FAULT 1 at 4");
            beyond("who b" + c + " 1;", "FAULT 1 at 5");
        }
        CombTable x = Due.at("who aaaaaaa 1;who aaaaaab 2;who a 3;who aa 4;kind p opens;");
        Bound.at("NAMES with a letter unlike", "1", Bound.read(x, Due.talk(x, "aa p;")));
        Bound.at("WHO aa", 3, Due.word(x, 0, 0));
        Bound.at("NAMES with a letter unlike", "1", Bound.read(x, Due.talk(x, "aaaaaab p;")));
        Bound.at("WHO aaaaaab", 1, Due.word(x, 0, 0));
        Bound.beyond("a NAME with a letter less", "FAULT 3 at 0", Bound.read(x, Due.talk(x, "aaaaaa p;")));
    }

    private static void numbers() {
        Bound.of("Terms 1", "NUMBERS: 1 to 3 digits");
        at("who a 6;", "1");
        in("who a 06;", "1");
        at("who a 006;", "1");
        at("kind p grants 90;", "1");
        beyond("who a 0006;", "FAULT 1 at 6");
        beyond("who a 0000000000000000000000000000006;", "FAULT 1 at 6");
        beyond("who a 4294967297;", "FAULT 1 at 6");
        beyond("comb ;", "FAULT 1 at 5");
        beyond("who a /;", "FAULT 1 at 6");
        beyond("who a :;", "FAULT 1 at 6");
        beyond("who a -1;", "FAULT 1 at 6");
    }

    private static void signs() {
        Bound.of("Terms 1", "; < = > ( ) .");
        at(";", "FAULT 1 at 0");
        at("twice;", "1");
        for (String text : new String[] {"place<1", "place=1", "place>1"}) {
            Bound.at("sentence of " + text, "1", Bound.sentence(ONE, text));
        }
        Bound.at("sentence of (by a)", "2", Bound.sentence(ONE, "(by a)"));
        beyond("twice:", "FAULT 1 at 5");
        beyond("twice,", "FAULT 1 at 5");
        beyond("twice.", "FAULT 1 at 5");
        Bound.beyond("sentence of place?1", "FAULT 1 at 5", Bound.sentence(ONE, "place?1"));
        Bound.beyond("sentence of place;1", "FAULT 1 at 5", Bound.sentence(ONE, "place;1"));
        Bound.beyond("sentence of place<=1", "FAULT 1 at 6", Bound.sentence(ONE, "place<=1"));
        Bound.beyond("sentence of 'by a)", "FAULT 1 at 0", Bound.sentence(ONE, "'by a)"));
        Bound.beyond("sentence of (by a*", "FAULT 1 at 5", Bound.sentence(ONE, "(by a*"));
        Bound.beyond("sentence of [by a]", "FAULT 1 at 0", Bound.sentence(ONE, "[by a]"));
    }

    private static void runs() {
        Bound.of("Terms 1", "A WORD, NUMBER goes on as long as small letters and digits do; "
            + "what is not as told is no TOKEN.");
        in("who a 1;kind b;", "2");
        at("comb 1 2;twice;ranks;", "3");
        beyond("who a1 1;", "FAULT 1 at 4");
        beyond("who 1a 1;", "FAULT 1 at 4");
        beyond("who abcdefg1 1;", "FAULT 1 at 4");
        beyond("who a 1b;", "FAULT 1 at 6");
        beyond("who a 001b;", "FAULT 1 at 6");
        beyond("who1 a 1;", "FAULT 1 at 0");
        beyond("whoa 1;", "FAULT 1 at 0");
        beyond("kind p opens1;", "FAULT 1 at 7");
        beyond("comb 1twice;", "FAULT 1 at 5");
        beyond("who " + Bound.times("a", 896), "FAULT 1 at 4");
        beyond("comb " + Bound.times("1", 895), "FAULT 1 at 5");
    }

    private static void tableBytes() {
        Bound.of("Terms 1", "A TABLE is a text of at most 900 bytes");
        in("who a 1;" + Bound.times(" ", 891), "1");
        at("who a 1;" + Bound.times(" ", 892), "1");
        at(Bound.times(" ", 892) + "who a 1;", "1");
        beyond("who a 1;" + Bound.times(" ", 893), "FAULT 1 at 900");
        beyond(Bound.times(" ", 893) + "who a 1;", "FAULT 1 at 900");
        beyond(Bound.times(" ", 940), "FAULT 1 at 900");
    }

    private static void lines() {
        Bound.of("Terms 1", "{ LINE ; }");
        at("", "0");
        in("who a 1;", "1");
        in("who a 1;who b 1;", "2");
        beyond("who a 1", "FAULT 1 at 7");
        beyond("who a 1 who b 1;", "FAULT 1 at 8");
        beyond("who a 1;;", "FAULT 1 at 8");
        beyond(";who a 1;", "FAULT 1 at 0");
        beyond("a who 1;", "FAULT 1 at 0");
    }

    private static void ranks() {
        Bound.of("Terms 1", "'who' NAME RANK (1 to 6)");
        beyond("who a 0;", "FAULT 2 at 6");
        at("who a 1;", "1");
        in("who a 2;", "1");
        in("who a 5;", "1");
        at("who a 6;", "1");
        beyond("who a 7;", "FAULT 2 at 6");
        beyond("who a 999;", "FAULT 2 at 6");
        beyond("who a 257;", "FAULT 2 at 6");
        beyond("who a;", "FAULT 1 at 5");
        Bound.at("rank of 1", 1, Due.at("who a 1;").rank(0));
        Bound.at("rank of 6", 6, Due.at("who a 006;").rank(0));
    }

    private static void kindLines() {
        Bound.of("Terms 1", "'kind' NAME [ 'opens' | 'begins' ] [ DOES ]");
        String[] texts = {"", "opens", "begins", "asks", "opens asks", "begins grants 5", "refuses"};
        int[] opening = {0, 1, 2, 0, 1, 2, 0};
        int[] does = {0, 0, 0, 1, 1, 2, 3};
        for (int i = 0; i < texts.length; i++) {
            CombTable x = Due.at("kind p " + texts[i] + ";");
            Bound.at("whether it opens, begins: " + texts[i], opening[i], Due.kind(x, 0, 0));
            Bound.at("what it does: " + texts[i], does[i], Due.kind(x, 0, 1));
        }
        beyond("kind p opens opens;", "FAULT 1 at 13");
        beyond("kind p opens begins;", "FAULT 1 at 13");
        beyond("kind p asks opens;", "FAULT 1 at 12");
        beyond("kind p asks keeps;", "FAULT 1 at 12");
        beyond("kind p opens asks frees;", "FAULT 1 at 18");
        beyond("kind;", "FAULT 1 at 4");
        beyond("kind p q;", "FAULT 1 at 7");
        beyond("kind p opens q;", "FAULT 1 at 13");
        for (String word : RESERVED) {
            boolean comes = " opens begins asks grants refuses keeps breaks frees ".contains(" " + word + " ");
            beyond("kind p " + word + "?", "FAULT 1 at " + (comes ? 7 + word.length() : 7));
        }
    }

    private static void doing() {
        Bound.of("Terms 1", "DOES: 'asks' | 'grants' N (1 to 99) | 'refuses' | 'keeps' | 'breaks' | 'frees'.");
        beyond("kind p grants 0;", "FAULT 2 at 14");
        at("kind p grants 1;", "1");
        in("kind p grants 2;", "1");
        in("kind p grants 98;", "1");
        at("kind p grants 99;", "1");
        beyond("kind p grants 100;", "FAULT 2 at 14");
        beyond("kind p grants 999;", "FAULT 2 at 14");
        beyond("kind p grants;", "FAULT 1 at 13");
        beyond("kind p asks 1;", "FAULT 1 at 12");
        String[] does = {"asks", "grants 7", "refuses", "keeps", "breaks", "frees"};
        for (int i = 0; i < does.length; i++) {
            CombTable x = Due.at("kind p " + does[i] + ";");
            Bound.at("what it does: " + does[i], i + 1, Due.kind(x, 0, 1));
            Bound.at("its N: " + does[i], i == 1 ? 7 : 0, Due.kind(x, 0, 2));
        }
    }

    private static void pairs() {
        Bound.of("Terms 1", "'may' KIND KIND (the first one may answer the second one; each two once)");
        CombTable x = Due.at("kind p;kind q;may p q;");
        Bound.at("KINDS that p may answer", 2, Due.kind(x, 0, 3));
        Bound.at("KINDS that q may answer", 0, Due.kind(x, 1, 3));
        in("kind p;kind q;may p q;may q p;", "4");
        at("kind p;may p p;", "2");
        beyond("kind p;kind q;may p q;may p q;", "FAULT 3 at 28");
        beyond("kind p;may p p;may p p;", "FAULT 3 at 21");
        beyond("kind p;may p;", "FAULT 1 at 12");
        beyond("kind p;may p p p;", "FAULT 1 at 15");
    }

    private static void combs() {
        Bound.of("Terms 1", "'comb' K { K } (1 to 6 each, 6 at most; once; 'comb' 2 without)");
        beyond("comb;", "FAULT 1 at 4");
        at("comb 1;", "1");
        in("comb 1 1 1 1 1;", "1");
        at("comb 1 1 1 1 1 1;", "1");
        at("comb 6 6 6 6 6 6;", "1");
        beyond("comb 1 1 1 1 1 1 1;", "FAULT 4 at 17");
        beyond("comb 0;", "FAULT 2 at 5");
        beyond("comb 7;", "FAULT 2 at 5");
        beyond("comb 1 1 1 1 1 7;", "FAULT 2 at 15");
        beyond("comb 1 1 1 1 1 0;", "FAULT 2 at 15");
        beyond("comb 1;comb 1;", "FAULT 3 at 7");
        Bound.at("K without", 1, Due.at("ranks;").count(3));
        Bound.at("K of one", 1, Due.at("comb 6;").count(3));
        Bound.at("K of six", 6, Due.at("comb 1 2 3 4 5 6;").count(3));
        String two = "who a 1;who b 1;who c 1;kind p opens;may p p;";
        CombTable x = Due.at(two + "comb 5 6;");
        Bound.first("a TABLE without", 5, Due.table(x, two));
        Bound.at("K without, behind one with two", 1, x.count(3));
        Bound.first("a FAULT behind comb", -9, Due.table(x, "comb 3;?") - 1);
        Bound.at("K without, behind a FAULT", 1, x.count(3));
        Bound.first("talk", 2, Due.talk(x, "a p;b p;"));
        Bound.in("without: two behind, of the own WHO", 4, x.say(0, 0));
        Bound.at("without: two behind", 0, x.say(2, 0));
        Bound.at("without: it ANSWERS the one two ahead", 0, Due.word(x, 2, 2));
    }

    private static void onceEach() {
        Bound.of("Terms 1", "'ranks' (once) | 'twice' (once)");
        CombTable x = Due.at("ranks;twice;");
        Bound.at("ranks once", 1, x.count(4));
        Bound.at("twice once", 1, x.count(5));
        Bound.in("no ranks", 0, Due.at("twice;").count(4));
        Bound.in("no twice", 0, Due.at("ranks;").count(5));
        Bound.first("ranks and twice, then a FAULT", -14, Due.table(x, "twice; ranks;?"));
        Bound.at("each once in the next TABLE", 2, Due.table(x, "twice;ranks;"));
        Bound.first("a TABLE without", 0, x.table());
        Bound.at("no ranks behind it", 0, x.count(4));
        Bound.at("no twice behind it", 0, x.count(5));
        beyond("ranks;ranks;", "FAULT 3 at 6");
        beyond("twice;twice;", "FAULT 3 at 6");
        beyond("ranks 1;", "FAULT 1 at 6");
        beyond("twice twice;", "FAULT 1 at 6");
    }

    private static void names() {
        Bound.of("Terms 1", "NAME: a WORD, none of those told here, in TORN minutes or in a SENTENCE; told once.");
        for (String word : RESERVED) {
            beyond("who " + word + " 1;", "FAULT 1 at 4");
            beyond("kind " + word + ";", "FAULT 1 at 5");
            String shorter = word.substring(0, word.length() - 1);
            in("who " + shorter + " 1;", "1");
            in("kind " + shorter + ";", "1");
            in("kind " + (word.length() < 7 ? word + "z" : "z" + word.substring(1)) + ";", "1");
        }
        at("who told 1;kind once;", "2");
        beyond("who a 1;who a 2;", "FAULT 3 at 12");
        beyond("who a 1;kind a;", "FAULT 3 at 13");
        beyond("kind a;who a 1;", "FAULT 3 at 11");
        beyond("kind a;kind a;", "FAULT 3 at 12");
    }

    private static void howMany() {
        Bound.of("Terms 1", "8 PEOPLE, 10 KINDS, 40 'may' at most, PEOPLE and KINDS numbered from 0.");
        in(people(7), "7");
        at(people(8), "8");
        beyond(people(9), "FAULT 4 at 64");
        in(kinds(9), "9");
        at(kinds(10), "10");
        beyond(kinds(11), "FAULT 4 at 70");
        in(mays(39), "49");
        at(mays(40), "50");
        beyond(mays(41), "FAULT 4 at 390");
        at(people(8) + mays(40), "58");
        CombTable again = Due.at(people(8) + mays(40));
        Bound.at("as many in the next TABLE", 58, Due.table(again, people(8) + mays(40)));
        Bound.at("40 'may' there", 40, again.count(2));
        CombTable x = Due.at("who a 3;who b 4;kind p asks;kind q keeps;");
        Bound.at("the first WHO is 0", 3, x.rank(0));
        Bound.at("the second WHO is 1", 4, x.rank(1));
        Bound.at("the first KIND is 0", 1, Due.kind(x, 0, 1));
        Bound.at("the second KIND is 1", 4, Due.kind(x, 1, 1));
    }

    private static void firstAndLeast() {
        Bound.of("Terms 1", "FAULTS, the first along the text, of one TOKEN the least");
        at("who a 7;who a 1;", "FAULT 2 at 6");
        at("who a 1;who a 7;", "FAULT 3 at 12");
        at("who a 7;?", "FAULT 2 at 6");
        at("?who a 7;", "FAULT 1 at 0");
        at(people(8) + "who a 7;?", "FAULT 4 at 64");
        at("comb 1;comb 0;", "FAULT 3 at 7");
        at("comb 1 1 1 1 1 1 1111;", "FAULT 1 at 17");
        at("comb 1 1 1 1 1 1 a;", "FAULT 1 at 17");
        String words = Bound.times("a p;", 24);
        Bound.at("a 25th WORD by nobody", "FAULT 3 at 96", Bound.minutes(ONE, words + "z p;"));
        Bound.in("a 25th WORD", "FAULT 4 at 96", Bound.minutes(ONE, words + "a z;"));
        Bound.at("a 25th WORD by no NAME", "FAULT 1 at 96", Bound.minutes(ONE, words + "by p;"));
        String ones = "by a" + Bound.times(" or by a", 19);
        Bound.at("a 21st ONE that can't come", "FAULT 1 at 160", Bound.sentence(ONE, ones + " or or"));
        Bound.in("a 21st ONE", "FAULT 4 at 160", Bound.sentence(ONE, ones + " or by z"));
    }

    private static void faultOne() {
        Bound.of("Terms 1", "1 no TOKEN, or one that can't come (at it; the end: how many bytes there are;");
        at("who a 1;?", "FAULT 1 at 8");
        at("who a 1;a", "FAULT 1 at 8");
        at("who", "FAULT 1 at 3");
        at("who ", "FAULT 1 at 4");
        at("who \n ", "FAULT 1 at 6");
        at("who a 1", "FAULT 1 at 7");
        at("who a 1 ", "FAULT 1 at 8");
        at("comb", "FAULT 1 at 4");
        at("comb \n;", "FAULT 1 at 6");
        in("who a 1;", "1");
        at(Bound.padded("who a 1", 898), "FAULT 1 at 898");
        at(Bound.padded("who a 1", 899), "FAULT 1 at 899");
        at(Bound.padded("who a 1", 900), "FAULT 1 at 900");
        at(Bound.padded("kind p", 900), "FAULT 1 at 900");
        at(Bound.padded("kind p opens", 900), "FAULT 1 at 900");
        at(Bound.padded("comb 1 2", 900), "FAULT 1 at 900");
    }

    private static void faultAtTheLimit() {
        Bound.of("Terms 1", "900, if there are more and no FAULT is ahead: "
            + "TOKENS that begin ahead of it are read whole)");
        in(Bound.padded("who a 1;", 900), "1");
        beyond(Bound.padded("who a 1;", 901), "FAULT 1 at 900");
        beyond(Bound.padded("who a 1;", 900) + "who a 7;", "FAULT 1 at 900");
        beyond(Bound.padded("who a 1", 901), "FAULT 1 at 900");
        beyond(Bound.padded("who a 1;who a", 902), "FAULT 3 at 12");
        beyond(Bound.padded("who a 1;", 899) + "? ", "FAULT 1 at 899");
        at(Bound.padded("who a ", 899) + "6;", "FAULT 1 at 900");
        at(Bound.padded("who a ", 899) + "16;", "FAULT 2 at 899");
        at(Bound.padded("who a ", 899) + "1666;", "FAULT 1 at 899");
        at(Bound.padded("who a ", 899) + "6a;", "FAULT 1 at 899");
        beyond(Bound.padded("who a ", 900) + "9;", "FAULT 1 at 900");
        at(Bound.padded("who ", 899) + "abcdefg 1;", "FAULT 1 at 900");
        at(Bound.padded("who ", 899) + "abcdefgh 1;", "FAULT 1 at 899");
        at(Bound.padded("who a 1;who ", 899) + "ab 1;", "FAULT 1 at 900");
        at(Bound.padded("who ab 1;who ", 899) + "ab 1;", "FAULT 3 at 899");
        beyond(Bound.padded("who ab 1;who ", 900) + "ab 1;", "FAULT 1 at 900");
        at(Bound.padded(people(8), 899) + "who", "FAULT 4 at 899");
        beyond(Bound.padded(people(8), 900) + "who", "FAULT 1 at 900");
        at(Bound.padded("twice", 899) + ";twice;", "FAULT 1 at 900");
    }

    private static void faultTwo() {
        Bound.of("Terms 1", "2 a NUMBER that is not as told (at it)");
        beyond("who a 0;", "FAULT 2 at 6");
        beyond("who a 7", "FAULT 2 at 6");
        beyond("kind p grants 0", "FAULT 2 at 14");
        beyond("kind p begins grants 100;", "FAULT 2 at 21");
        beyond("comb 1 0;", "FAULT 2 at 7");
        beyond("comb  7", "FAULT 2 at 6");
        in("who a 6;kind p grants 99;comb 1 6;", "3");
        Bound.in("a NUMBER of a SENTENCE is as told", "1", Bound.sentence(ONE, "place=999"));
        Bound.in("a NUMBER of a SENTENCE is as told", "1", Bound.sentence(ONE, "state>0"));
    }

    private static void faultThree() {
        Bound.of("Terms 1", "3 a NAME told twice, not told, or of another sort, two KINDS of 'may' told again "
            + "(at the second), comb, ranks, twice told again (at its WORD)");
        beyond("who a 1;who a", "FAULT 3 at 12");
        beyond("kind a;kind a", "FAULT 3 at 12");
        beyond("kind p;may p q;", "FAULT 3 at 13");
        beyond("kind p;may q p;", "FAULT 3 at 11");
        beyond("kind p;may p q;kind q;", "FAULT 3 at 13");
        in("kind p;kind q;may p q;", "3");
        beyond("who a 1;kind p;may a p;", "FAULT 3 at 19");
        beyond("who a 1;kind p;may p a;", "FAULT 3 at 21");
        beyond("kind p;may p p;may p p", "FAULT 3 at 21");
        beyond("comb 1;comb", "FAULT 3 at 7");
        beyond("ranks;ranks", "FAULT 3 at 6");
        beyond("twice;ranks;twice", "FAULT 3 at 12");
    }

    private static void faultFour() {
        Bound.of("Terms 1", "4 a ninth WHO, an 11th KIND, a 41st 'may' (at the LINE's first WORD), a seventh NUMBER "
            + "behind comb (at it, whatever it is; no 2 there).");
        beyond(people(8) + "who", "FAULT 4 at 64");
        beyond(people(8) + "\n who a 9;", "FAULT 4 at 66");
        in(people(8) + "kind p;", "9");
        beyond(kinds(10) + "kind", "FAULT 4 at 70");
        beyond(kinds(10) + "kind k 1;", "FAULT 4 at 70");
        in(kinds(10) + "who a 1;", "11");
        beyond(mays(40) + "may", "FAULT 4 at 390");
        beyond(mays(40) + "may k k;", "FAULT 4 at 390");
        beyond(mays(40) + "may who", "FAULT 4 at 390");
        in(mays(39) + "may t t;", "50");
        at("comb 1 2 3 4 5 6;", "1");
        beyond("comb 1 2 3 4 5 6 1;", "FAULT 4 at 17");
        beyond("comb 1 2 3 4 5 6 0;", "FAULT 4 at 17");
        beyond("comb 1 2 3 4 5 6 7;", "FAULT 4 at 17");
        beyond("comb 1 2 3 4 5 6 999", "FAULT 4 at 17");
    }

    static void run() {
        blanks();
        words();
        numbers();
        signs();
        runs();
        tableBytes();
        lines();
        ranks();
        kindLines();
        doing();
        pairs();
        combs();
        onceEach();
        names();
        howMany();
        firstAndLeast();
        faultOne();
        faultAtTheLimit();
        faultTwo();
        faultThree();
        faultFour();
    }
}
