/** The FAULTS of all four texts: their places and kinds. */
final class FaultsTest {
    private static final String TABLE = "who a 1;who b 2;kind p opens asks;kind q grants 3;kind r opens;may q p;may r p;";

    private FaultsTest() {
    }

    private static void table(String text, int place, int fault) {
        CombTable x = new CombTable();
        Due.is("table of \"" + text + "\"", -1 - place, Due.table(x, text));
        Due.is("its fault", fault, x.fault());
        Due.is("the tape", 0, x.count(8));
    }

    private static void talk(String text, int place, int fault, int why) {
        CombTable x = Due.at(TABLE);
        Due.is("talk of \"" + text + "\"", -1 - place, Due.talk(x, text));
        Due.is("its fault", fault, x.fault());
        Due.is("why", why, x.why());
        Due.is("the tape", 0, x.count(8));
    }

    private static void minutes(String text, int place, int fault) {
        CombTable x = Due.at(TABLE);
        Due.is("minutes of \"" + text + "\"", -1 - place, Due.minutes(x, text));
        Due.is("its fault", fault, x.fault());
        Due.is("the tape", 0, x.count(8));
    }

    private static void sentence(String text, int place, int fault) {
        CombTable x = Due.at(TABLE);
        Due.is("sentence of \"" + text + "\"", -1 - place, Due.sentence(x, text));
        Due.is("its fault", fault, x.fault());
        Due.is("the tape", 0, x.count(8));
    }

    private static void tokens() {
        table("Who a 1;", 0, 1);
        table("\twho a 1;", 0, 1);
        table("who a 1;\r", 8, 1);
        table("who a1 1;", 4, 1);
        table("who abcdefgh 1;", 4, 1);
        table("who a 1b;", 6, 1);
        table("who a 0001;", 6, 1);
        table("who \u00e9 1;", 4, 1);
        table("who a\u0000 1;", 5, 1);
        table("who a 1.", 7, 1);
        table("who a 1;.", 8, 1);
        Due.is("a NUMBER of three digits", 1, Due.table(new CombTable(), "who a 006;"));
        Due.is("a NAME of seven letters", 1, Due.table(new CombTable(), "who abcdefg 6;"));
        Due.is("blanks", 1, Due.table(new CombTable(), " \n who \n\n a 6 ; \n"));
        Due.is("no blanks where none are needed", 2, Due.table(new CombTable(), "comb 1 2;who a 6;"));
    }

    private static void tables() {
        table("who", 3, 1);
        table("who ", 4, 1);
        table("who a", 5, 1);
        table("who a 1", 7, 1);
        table("who a;", 5, 1);
        table("who 1 1;", 4, 1);
        table("who who 1;", 4, 1);
        table("who a 0;", 6, 2);
        table("who a 7;", 6, 2);
        table("who a 999;", 6, 2);
        table("who a 1 1;", 8, 1);
        table("who a 1;;", 8, 1);
        table("who a 1;who a 1;", 12, 3);
        table("who a 1;kind a;", 13, 3);
        table("kind a;who a 1;", 11, 3);
        table("kind p;kind p;", 12, 3);
        table("kind p opens begins;", 13, 1);
        table("kind p begins opens;", 14, 1);
        table("kind p asks opens;", 12, 1);
        table("kind p asks asks;", 12, 1);
        table("kind p grants;", 13, 1);
        table("kind p grants 0;", 14, 2);
        table("kind p grants 100;", 14, 2);
        table("kind p asks 3;", 12, 1);
        table("kind p x;", 7, 1);
        table("kind p 1;", 7, 1);
        table("kind p may;", 7, 1);
        table("kind p;may p q;", 13, 3);
        table("kind p;may q p;", 11, 3);
        table("may p p;kind p;", 4, 3);
        table("who a 1;kind p;may a p;", 19, 3);
        table("who a 1;kind p;may p a;", 21, 3);
        table("kind p;may p asks;", 13, 1);
        table("kind p;may p p;may p p;", 21, 3);
        table("kind p;may p p q;", 15, 1);
        table("comb;", 4, 1);
        table("comb 0;", 5, 2);
        table("comb 1 7;", 7, 2);
        table("comb 1 2 3 4 5 6 7;", 17, 4);
        table("comb 1 2 3 4 5 6 1", 17, 4);
        table("comb 1 2 3 4 5 6 1234;", 17, 1);
        table("comb 1 2 3 4 5 6 x;", 17, 1);
        table("comb 2;comb 2;", 7, 3);
        table("comb 2;comb", 7, 3);
        table("ranks;twice;ranks;", 12, 3);
        table("ranks 1;", 6, 1);
        table("twice;ranks;twice;", 12, 3);
        table("opens;", 0, 1);
        table(";", 0, 1);
        String[] reserved = {"who", "kind", "may", "comb", "ranks", "twice", "opens", "begins", "asks", "grants",
            "refuses", "keeps", "breaks", "frees", "any", "or", "and", "not", "by", "to", "is", "place", "thread",
            "depth", "state"};
        for (String word : reserved) {
            table("who " + word + " 1;", 4, 1);
            table("kind " + word + ";", 5, 1);
            boolean comes = "opens begins asks refuses keeps breaks frees".contains(word) && word.length() > 3;
            if (!comes && !word.equals("grants")) {
                table("kind p " + word + ";", 7, 1);
                table("kind p opens " + word + ";", 13, 1);
                talk(word + " p;", 0, 1, 0);
                talk("a " + word + ";", 2, 1, 0);
                sentence("by " + word, 3, 1);
                sentence("is " + word, 3, 1);
            }
        }
    }

    private static void tooManyLines() {
        StringBuilder people = new StringBuilder();
        for (int i = 0; i < 8; i++) {
            people.append("who ").append((char) ('a' + i)).append(" 1;");
        }
        table(people + "who", 64, 4);
        table(people + "who a 9;", 64, 4);
        StringBuilder kinds = new StringBuilder();
        for (int i = 0; i < 10; i++) {
            kinds.append("kind ").append((char) ('k' + i)).append(';');
        }
        table(kinds + "kind", 70, 4);
        StringBuilder mays = new StringBuilder(kinds);
        for (int i = 0; i < 40; i++) {
            mays.append("may ").append((char) ('k' + i / 10)).append(' ').append((char) ('k' + i % 10)).append(';');
        }
        Due.is("40 'may'", 50, Due.table(new CombTable(), mays.toString()));
        table(mays + "may k k;", mays.length(), 4);
        table(mays + "may zz", mays.length(), 4);
    }

    private static String padded(String text, int length) {
        StringBuilder padded = new StringBuilder(text);
        while (padded.length() < length) {
            padded.append(' ');
        }
        return padded.toString();
    }

    private static void lengths() {
        Due.is("900 bytes", 1, Due.table(new CombTable(), padded("who a 1;", 900)));
        table(padded("who a 1;", 901), 900, 1);
        table(padded("who a 1;", 940), 900, 1);
        table(padded("who a 1", 900), 900, 1);
        table(padded("who a ", 899) + "12;", 899, 2);
        table(padded("who a ", 897) + "3;;", 899, 1);
        table(padded("who a ", 898) + "3;;", 900, 1);
        table(padded("who ", 899) + "abcdefgh 1;", 899, 1);
        table(padded("who ", 899) + "abcdefg 1;", 900, 1);
        table(padded("who a ", 900) + "9;", 900, 1);
        Due.is("900 bytes of a talk", 1, Due.talk(Due.at(TABLE), padded("a p;", 900)));
        talk(padded("a p;", 901), 900, 1, 0);
        talk(padded("b p;a p;a ", 899) + "p;", 8, 5, 1);
        talk(padded("b p;a p;a ", 900) + "p;", 900, 1, 0);
        Due.is("300 bytes of minutes", 1, Due.minutes(Due.at(TABLE), padded("a p;", 300)));
        minutes(padded("a p;", 301), 300, 1);
        minutes(padded("a p;", 299) + "zz", 299, 3);
        minutes(padded("a p;", 300) + "zz", 300, 1);
        Due.is("200 bytes of a sentence", 1, Due.sentence(Due.at(TABLE), padded("by a", 200)));
        sentence(padded("by a", 201), 200, 1);
        sentence(padded("by a", 199) + "by b", 199, 1);
        sentence(padded("by", 200) + "zz", 200, 1);
        sentence(padded("by", 199) + "zz", 199, 3);
    }

    private static void talks() {
        talk("a", 1, 1, 0);
        talk("a p", 3, 1, 0);
        talk("a ;", 2, 1, 0);
        talk("p p;", 0, 3, 0);
        talk("a a;", 2, 3, 0);
        talk("a asks;", 2, 1, 0);
        talk("any p;", 0, 1, 0);
        talk("z p;", 0, 3, 0);
        talk("a z;", 2, 3, 0);
        talk("a p;a z;", 6, 3, 0);
        talk("a p;a p;", 4, 5, 1);
        talk("a p;a p", 4, 5, 1);
        talk("a q;", 0, 5, 2);
        talk("a p;b p;a p;", 8, 5, 3);
        talk("a p;b q x;", 4, 5, 2);
        talk("a 1;", 2, 1, 0);
        talk("a p;b r;;", 8, 1, 0);
        Due.is("a TALK", 2, Due.talk(Due.at(TABLE), "a p;b r;"));
        Due.is("a TALK of no WORDS", 0, Due.talk(Due.at(TABLE), ""));
    }

    private static void tornMinutes() {
        minutes("any", 3, 1);
        minutes("any any", 7, 1);
        minutes("p any;", 0, 3);
        minutes("any a;", 4, 3);
        minutes("any who;", 4, 1);
        minutes("kind any;", 0, 1);
        minutes("any any any", 8, 1);
        StringBuilder words = new StringBuilder();
        for (int i = 0; i < 24; i++) {
            words.append("a p;");
        }
        Due.is("24 WORDS", 24, Due.minutes(Due.at(TABLE), words.toString()));
        minutes(words + "a", 96, 4);
        minutes(words + "any", 96, 4);
        minutes(words + "z", 96, 3);
        minutes(words + ";", 96, 1);
        String eight = "any any;any any;any any;any any;";
        Due.is("eight 'any'", 4, Due.minutes(Due.at(TABLE), eight));
        minutes(eight + "any p;", 32, 4);
        minutes(eight + "a any;", 34, 4);
        minutes("any p;" + eight, 34, 4);
    }

    private static void sentences() {
        sentence("", 0, 1);
        sentence("  ", 2, 1);
        sentence("by", 2, 1);
        sentence("by p", 3, 3);
        sentence("is a", 3, 3);
        sentence("is zz", 3, 3);
        sentence("by who", 3, 1);
        sentence("by 1", 3, 1);
        sentence("by a by b", 5, 1);
        sentence("by a and", 8, 1);
        sentence("by a or or", 8, 1);
        sentence("a", 0, 1);
        sentence("place 3", 6, 1);
        sentence("place = x", 8, 1);
        sentence("place = 1000", 8, 1);
        sentence("place ( 1", 6, 1);
        sentence("( by a", 6, 1);
        sentence("( by a ;", 7, 1);
        sentence("by a )", 5, 1);
        sentence("()", 1, 1);
        sentence("not", 3, 1);
        sentence("by a;", 4, 1);
        StringBuilder twenty = new StringBuilder("by a");
        for (int i = 1; i < 20; i++) {
            twenty.append(i % 2 == 0 ? " and by a" : " or by a");
        }
        Due.is("20 ONES", 20, Due.sentence(Due.at(TABLE), twenty.toString()));
        sentence(twenty + " or to", twenty.length() + 4, 4);
        sentence(twenty + " or (", twenty.length() + 4, 4);
        sentence(twenty + " or ;", twenty.length() + 4, 1);
        Due.is("eight within one another", 8, Due.sentence(Due.at(TABLE), "not not not not not not not by a"));
        sentence("not not not not not not not not by a", 32, 4);
        Due.is("eight brackets and ONES", 8, Due.sentence(Due.at(TABLE), "(((((((by a)))))))"));
        sentence("((((((((by a))))))))", 8, 4);
        sentence("((((((((zz", 8, 1);
        Due.is("two chains", 9, Due.sentence(Due.at(TABLE), "not not by a and not not not not not by b"));
    }

    public static void main(String[] args) {
        tokens();
        tables();
        tooManyLines();
        lengths();
        talks();
        tornMinutes();
        sentences();
        Due.close("FaultsTest");
    }
}
