import java.util.NoSuchElementException;

/**
 * A table at which each word answers the one that stands some words ahead of it. The document's
 * own words stand in capitals in the comments.
 */
public final class CombTable {
    public static final int NONE = -1;

    private static final int TOO_MANY = -2;
    private static final int NO_SUCH = -3;
    private static final int BYTES_AT_ONCE = 20;
    private static final int ROAD_MOST = 8;
    private static final int UNLIKE_MOST = 6;

    private final Tape tape;
    private final Table table;
    private final Table spareTable;
    private final Talk talk;
    private final Talk trial;
    private final Talk otherTrial;
    private final Minutes minutes;
    private final Minutes spareMinutes;
    private final Sentence sentence;
    private final Sentence spareSentence;
    private final Image firstImage;
    private final Image secondImage;
    private final Search search;
    private final Wholes wholes;
    private final Repair repair;

    public CombTable() {
        tape = new Tape();
        table = new Table();
        spareTable = new Table();
        talk = new Talk(Talk.MOST);
        trial = new Talk(Talk.MOST);
        otherTrial = new Talk(ROAD_MOST);
        minutes = new Minutes();
        spareMinutes = new Minutes();
        sentence = new Sentence();
        spareSentence = new Sentence();
        firstImage = new Image();
        secondImage = new Image();
        search = new Search();
        wholes = new Wholes();
        repair = new Repair();
    }

    public int feed(int a, int b, int c, int d, int e) {
        if (tape.length + BYTES_AT_ONCE > Tape.MOST) {
            return NONE;
        }
        tape.put(a);
        tape.put(b);
        tape.put(c);
        tape.put(d);
        tape.put(e);
        return tape.length;
    }

    public boolean end(int n) {
        if (n < 0 || n > tape.length) {
            return false;
        }
        tape.length = n;
        return true;
    }

    public int table() {
        boolean read = spareTable.read(tape);
        if (read) {
            table.copy(spareTable);
            talk.begin(table);
            minutes.clear();
            sentence.clear();
        }
        return afterReading(read, table.lines);
    }

    public int fault() {
        return tape.fault;
    }

    public int rank(int who) {
        return table.hasWho(who) ? table.ranks[who] : NONE;
    }

    public int kind(int k, int what) throws NoSuchElementException {
        if (!table.hasKind(k) || what < 0 || what > 3) {
            throw new NoSuchElementException();
        }
        return table.tell(k, what);
    }

    public int say(int who, int kind) {
        int flaw = talk.flaw(who, kind);
        if (flaw == 0) {
            talk.add(who, kind);
        }
        return flaw;
    }

    public int wrong(int who, int kind) {
        return talk.flaw(who, kind);
    }

    public int may(int who) {
        return table.hasWho(who) ? talk.choices(who) : NONE;
    }

    public int undo() {
        if (talk.size == 0) {
            return NONE;
        }
        talk.takeBack();
        return talk.size;
    }

    public int talk() {
        boolean read = trial.read(tape, table);
        if (read) {
            talk.copy(trial);
        }
        talk.why = trial.why;
        return afterReading(read, talk.size);
    }

    public int why() {
        return talk.why;
    }

    public int word(int t, int what) throws NoSuchElementException {
        if (!talk.has(t) || what < 0 || what > 7) {
            throw new NoSuchElementException();
        }
        return talk.tell(t, what);
    }

    public int threads() {
        return talk.begun;
    }

    public int thread(int n, int k) {
        if (n < 0 || n >= talk.begun) {
            return NONE;
        }
        int seen = 0;
        for (int t = 0; t < talk.size; t++) {
            if (talk.tell(t, Talk.THREAD) == n) {
                if (seen == k) {
                    return t;
                }
                seen++;
            }
        }
        return k == NONE ? seen : NONE;
    }

    public int with(int state, int k) {
        if (state < Talk.ASKED || state > Talk.LAPSED) {
            return NONE;
        }
        int seen = 0;
        for (int t = 0; t < talk.size; t++) {
            if (talk.stateOf(t) == state) {
                if (seen == k) {
                    return t;
                }
                seen++;
            }
        }
        return k == NONE ? seen : NONE;
    }

    public int promised(int a, int b, int state) {
        if (!table.hasWho(a) || !table.hasWho(b)) {
            return NONE;
        }
        if (state != 0 && (state < Talk.PROMISE || state > Talk.LAPSED)) {
            return NONE;
        }
        int seen = 0;
        for (int t = 0; t < talk.size; t++) {
            boolean theirs = talk.tell(t, Talk.WHO) == a && talk.promisee(t) == b;
            if (theirs && (state == 0 || talk.stateOf(t) == state)) {
                seen++;
            }
        }
        return seen;
    }

    public int minutes() {
        boolean read = spareMinutes.read(tape, table);
        if (read) {
            minutes.copy(spareMinutes);
        }
        return afterReading(read, minutes.size);
    }

    public int wholes(int by) {
        if (by < 0 || by > 2) {
            return NONE;
        }
        if (minutes.ways(table) > Wholes.MOST) {
            return TOO_MANY;
        }
        trial.begin(table);
        return wholes.all(minutes, trial, by);
    }

    public int sure(int t, int what) {
        return wholes.sureOf(t, what);
    }

    public int hangs() {
        if (minutes.ways(table) * table.people * table.kinds > Wholes.MOST_TORN) {
            return TOO_MANY;
        }
        trial.begin(table);
        return wholes.hanging(minutes, trial);
    }

    public int mend() {
        if (minutes.torn > 0 || minutes.size > Repair.MENDED_MOST) {
            return NONE;
        }
        trial.begin(table);
        return repair.leaveOut(minutes, trial);
    }

    public int mended() {
        return repair.leftOut;
    }

    public int orders() {
        if (minutes.torn > 0 || minutes.size > Repair.ORDERED_MOST) {
            return NONE;
        }
        trial.begin(table);
        return repair.arrange(minutes, trial);
    }

    public int orderAt(int i) {
        return repair.placeAt(i);
    }

    public int drawn(int n, int seed) {
        if (n < 1 || n > Talk.MOST) {
            return NONE;
        }
        int x = seed;
        for (int i = 0; i < n; i++) {
            int all = talk.nextOnes();
            if (all <= 0) {
                return i;
            }
            x = x * 1103515245 + 12345;
            talk.addNext((x >>> 8) % all);
        }
        return n;
    }

    public int spoke(int who, int kind) {
        if (who != NONE && !table.hasWho(who) || kind != NONE && !table.hasKind(kind)) {
            return NONE;
        }
        int seen = 0;
        for (int t = 0; t < talk.size; t++) {
            boolean byWho = who == NONE || talk.tell(t, Talk.WHO) == who;
            if (byWho && (kind == NONE || talk.tell(t, Talk.KIND) == kind)) {
                seen++;
            }
        }
        return seen;
    }

    public int road(int w, int state, int n) {
        int length = roadLength(NONE, w, state, n);
        if (length >= 0) {
            search.keepFound(length);
        }
        return length;
    }

    public int without(int who, int w, int state, int n) {
        if (!table.hasWho(who)) {
            return NO_SUCH;
        }
        return roadLength(who, w, state, n);
    }

    public int game(int side, int w, int state, int n) {
        int everyone = (1 << table.people) - 1;
        boolean sides = side > 0 && side < everyone;
        if (!sides || !talk.has(w) || !isState(state) || n < 1 || n > ROAD_MOST) {
            return NO_SUCH;
        }
        if (Search.tooMany(table.people * table.kinds, n)) {
            return TOO_MANY;
        }
        search.aim(w, state);
        return search.forcedBy(talk, side, n);
    }

    public int found(int i) {
        return search.foundAt(i);
    }

    public int unlike(int k, int n) {
        Image image = imageAt(k);
        if (image == null || !image.kept || n < 1 || n > UNLIKE_MOST) {
            return NO_SUCH;
        }
        int people = Math.max(table.people, image.table.people);
        int kinds = Math.max(table.kinds, image.table.kinds);
        if (Search.tooMany(people * kinds, n)) {
            return TOO_MANY;
        }
        trial.begin(table);
        otherTrial.begin(image.table);
        int length = search.difference(trial, otherTrial, n);
        if (length > 0) {
            search.keepFound(length);
        }
        return length;
    }

    public int sentence() {
        boolean read = spareSentence.read(tape, table);
        if (read) {
            sentence.copy(spareSentence);
        }
        return afterReading(read, sentence.ones);
    }

    public int said(int k) {
        if (sentence.length == 0) {
            return NONE;
        }
        int seen = 0;
        for (int t = 0; t < talk.size; t++) {
            if (sentence.holds(talk, t)) {
                if (seen == k) {
                    return t;
                }
                seen++;
            }
        }
        return k == NONE ? seen : NONE;
    }

    public boolean image(int k) {
        Image image = imageAt(k);
        if (image == null) {
            return false;
        }
        image.keep(table, talk, minutes, sentence);
        return true;
    }

    public boolean restore(int k) {
        Image image = imageAt(k);
        if (image == null || !image.kept) {
            return false;
        }
        image.giveBack(table, talk, minutes, sentence);
        return true;
    }

    public int count(int what) {
        switch (what) {
            case 0: return table.people;
            case 1: return table.kinds;
            case 2: return table.mays;
            case 3: return table.combs;
            case 4: return table.byRanks ? 1 : 0;
            case 5: return table.twice ? 1 : 0;
            case 6: return talk.size;
            case 7: return minutes.size;
            case 8: return tape.length;
            default: return NONE;
        }
    }

    /** What a call answers that has read the tape, which is empty behind it. */
    private int afterReading(boolean read, int size) {
        tape.length = 0;
        return read ? size : -1 - tape.faultPlace;
    }

    private int roadLength(int silent, int w, int state, int n) {
        if (w < 0 || w >= Talk.MOST || !isState(state) || n < 1 || n > ROAD_MOST) {
            return NO_SUCH;
        }
        if (Search.tooMany(table.people * table.kinds, n)) {
            return TOO_MANY;
        }
        search.aim(w, state);
        return search.roadWithout(talk, silent, n);
    }

    private static boolean isState(int state) {
        return state >= 0 && state <= Talk.LAPSED;
    }

    private Image imageAt(int k) {
        if (k == 0) {
            return firstImage;
        }
        return k == 1 ? secondImage : null;
    }

    /** The WORDS that the texts tell by themselves, none of which is a NAME. */
    private enum Term {
        NAME("", 0),
        WHO("who", 0),
        KIND("kind", 0),
        MAY("may", 0),
        COMB("comb", 0),
        RANKS("ranks", 0),
        TWICE("twice", 0),
        OPENS("opens", 0),
        BEGINS("begins", 0),
        ASKS("asks", 1),
        GRANTS("grants", 2),
        REFUSES("refuses", 3),
        KEEPS("keeps", 4),
        BREAKS("breaks", 5),
        FREES("frees", 6),
        ANY("any", 0),
        OR("or", 0),
        AND("and", 0),
        NOT("not", 0),
        BY("by", 0),
        TO("to", 0),
        IS("is", 0),
        PLACE("place", 0),
        THREAD("thread", 0),
        DEPTH("depth", 0),
        STATE("state", 0);

        /** The letters as one number; what a KIND does of which this WORD stands. */
        final long letters;
        final int does;

        Term(String text, int does) {
            long all = 0;
            for (int i = 0; i < text.length(); i++) {
                all = withLetter(all, text.charAt(i));
            }
            this.letters = all;
            this.does = does;
        }

        static long withLetter(long letters, int letter) {
            return letters * 32 + (letter - 'a' + 1);
        }
    }

    /** The tape, the TOKEN of its text that is looked at, and the FAULT of the latest text. */
    private static final class Tape {
        static final int MOST = 940;

        static final int STOP = 0;
        static final int WORD = 1;
        static final int NUMBER = 2;
        static final int SIGN = 3;
        static final int NEITHER = 4;

        private static final Term[] TERMS = Term.values();

        final byte[] bytes = new byte[MOST];
        int length;

        /** How many bytes the text that is read may have, and where its next TOKEN is looked for. */
        int most;
        int next;

        int sort;
        int place;
        /** The letters of a WORD as one number; which of the texts' own WORDS it is. */
        long letters;
        Term term = Term.NAME;
        /** What a NUMBER tells, or which SIGN it is. */
        int value;

        int fault;
        int faultPlace;

        void put(int number) {
            for (int shift = 24; shift >= 0 && length < MOST; shift -= 8) {
                bytes[length] = (byte) (number >> shift);
                length++;
            }
        }

        void open(int limit) {
            most = limit;
            next = 0;
            fault = 0;
            faultPlace = 0;
            advance();
        }

        void advance() {
            int bound = Math.min(length, most);
            while (next < bound && (bytes[next] == 32 || bytes[next] == 10)) {
                next++;
            }
            if (next >= bound) {
                sort = STOP;
                place = bound;
                return;
            }
            place = next;
            int c = bytes[next];
            if (isLetter(c) || isDigit(c)) {
                readRun();
                return;
            }
            sort = c == ';' || c == '<' || c == '=' || c == '>' || c == '(' || c == ')' ? SIGN : NEITHER;
            value = c;
            next++;
        }

        /** A WORD or NUMBER is read whole, even if it goes on behind the limit. */
        private void readRun() {
            int letterCount = 0;
            int digitCount = 0;
            letters = 0;
            value = 0;
            for (; next < length; next++) {
                int c = bytes[next];
                if (isLetter(c)) {
                    letterCount++;
                    letters = Term.withLetter(letters, c);
                } else if (isDigit(c)) {
                    digitCount++;
                    value = value * 10 + (c - '0');
                } else {
                    break;
                }
            }
            if (digitCount == 0 && letterCount <= 7) {
                sort = WORD;
                term = termOf(letters);
            } else {
                sort = letterCount == 0 && digitCount <= 3 ? NUMBER : NEITHER;
            }
        }

        private static Term termOf(long letters) {
            for (int i = 0; i < TERMS.length; i++) {
                if (TERMS[i].letters == letters) {
                    return TERMS[i];
                }
            }
            return Term.NAME;
        }

        private static boolean isLetter(int c) {
            return c >= 'a' && c <= 'z';
        }

        private static boolean isDigit(int c) {
            return c >= '0' && c <= '9';
        }

        boolean fails(int kindOfFault, int where) {
            fault = kindOfFault;
            faultPlace = where;
            return false;
        }

        boolean isTerm(Term wanted) {
            return sort == WORD && term == wanted;
        }

        boolean isName() {
            return sort == WORD && term == Term.NAME;
        }

        boolean isSign(char sign) {
            return sort == SIGN && value == sign;
        }

        boolean takes(char sign) {
            if (!isSign(sign)) {
                return fails(1, place);
            }
            advance();
            return true;
        }

        /** Whether a NUMBER from low to high stands here; if not, its FAULT is told. */
        boolean isNumber(int low, int high) {
            if (sort != NUMBER) {
                return fails(1, place);
            }
            return value >= low && value <= high || fails(2, place);
        }

        /** Whether the text ends here and is not too long; if not, its FAULT is told. */
        boolean closes() {
            return sort == STOP && length <= most || fails(1, place);
        }

        /** The WHO whose NAME stands here; NONE, and its FAULT is told, if none does. */
        int whoHere(Table table) {
            int who = isName() ? table.whoNamed(letters) : NONE;
            if (who == NONE) {
                fails(isName() ? 3 : 1, place);
            }
            return who;
        }

        /** The KIND whose NAME stands here; NONE, and its FAULT is told, if none does. */
        int kindHere(Table table) {
            int kind = isName() ? table.kindNamed(letters) : NONE;
            if (kind == NONE) {
                fails(isName() ? 3 : 1, place);
            }
            return kind;
        }
    }

    /** A TABLE: its PEOPLE, its KINDS, which may answer which, and how far back. */
    private static final class Table {
        static final int BYTES = 900;
        static final int PEOPLE = 8;
        static final int KINDS = 10;
        static final int MAYS = 40;
        static final int COMBS = 6;
        static final int FARTHEST = 6;
        static final int LONGEST = 99;

        static final int OPENS = 1;
        static final int BEGINS = 2;

        static final int GRANTS = 2;
        static final int REFUSES = 3;
        static final int KEEPS = 4;
        static final int BREAKS = 5;
        static final int FREES = 6;

        int lines;
        int people;
        final long[] whoNames = new long[PEOPLE];
        final int[] ranks = new int[PEOPLE];
        int kinds;
        final long[] kindNames = new long[KINDS];
        final int[] opening = new int[KINDS];
        final int[] does = new int[KINDS];
        final int[] spans = new int[KINDS];
        /** The KINDS that each KIND may answer, as bits. */
        final int[] answered = new int[KINDS];
        int mays;
        int combs;
        final int[] comb = new int[COMBS];
        boolean combTold;
        boolean byRanks;
        boolean twice;

        Table() {
            combs = 1;
            comb[0] = 2;
        }

        private void clear() {
            lines = 0;
            people = 0;
            kinds = 0;
            mays = 0;
            combs = 1;
            comb[0] = 2;
            combTold = false;
            byRanks = false;
            twice = false;
        }

        void copy(Table from) {
            lines = from.lines;
            people = from.people;
            System.arraycopy(from.whoNames, 0, whoNames, 0, PEOPLE);
            System.arraycopy(from.ranks, 0, ranks, 0, PEOPLE);
            kinds = from.kinds;
            System.arraycopy(from.kindNames, 0, kindNames, 0, KINDS);
            System.arraycopy(from.opening, 0, opening, 0, KINDS);
            System.arraycopy(from.does, 0, does, 0, KINDS);
            System.arraycopy(from.spans, 0, spans, 0, KINDS);
            System.arraycopy(from.answered, 0, answered, 0, KINDS);
            mays = from.mays;
            combs = from.combs;
            System.arraycopy(from.comb, 0, comb, 0, COMBS);
            combTold = from.combTold;
            byRanks = from.byRanks;
            twice = from.twice;
        }

        boolean hasWho(int who) {
            return who >= 0 && who < people && who < PEOPLE;
        }

        boolean hasKind(int kind) {
            return kind >= 0 && kind < kinds && kind < KINDS;
        }

        int whoNamed(long name) {
            for (int who = 0; who < people && who < PEOPLE; who++) {
                if (whoNames[who] == name) {
                    return who;
                }
            }
            return NONE;
        }

        int kindNamed(long name) {
            for (int kind = 0; kind < kinds && kind < KINDS; kind++) {
                if (kindNames[kind] == name) {
                    return kind;
                }
            }
            return NONE;
        }

        boolean mayAnswer(int kind, int other) {
            return hasKind(kind) && hasKind(other) && (answered[kind] >> other & 1) != 0;
        }

        int openingOf(int kind) {
            return kind >= 0 && kind < KINDS ? opening[kind] : 0;
        }

        int doingOf(int kind) {
            return kind >= 0 && kind < KINDS ? does[kind] : 0;
        }

        int spanOf(int kind) {
            return kind >= 0 && kind < KINDS ? spans[kind] : 0;
        }

        int tell(int kind, int what) {
            switch (what) {
                case 0: return openingOf(kind);
                case 1: return doingOf(kind);
                case 2: return spanOf(kind);
                default: return hasKind(kind) ? answered[kind] : 0;
            }
        }

        /** How far ahead of WORD t the one stands that it ANSWERS if that WHO says it. */
        int reach(int who, int t) {
            if (byRanks) {
                return who >= 0 && who < PEOPLE ? ranks[who] : 1;
            }
            int turn = combs > 0 && t >= 0 ? t % combs : 0;
            return turn < COMBS ? comb[turn] : 1;
        }

        /** Reads a TABLE from the tape; false, if it has a FAULT. */
        boolean read(Tape tape) {
            clear();
            tape.open(BYTES);
            for (int i = 0; i < Tape.MOST && tape.sort != Tape.STOP; i++) {
                if (!readLine(tape) || !tape.takes(';')) {
                    return false;
                }
                lines++;
            }
            return tape.closes();
        }

        private boolean readLine(Tape tape) {
            if (tape.isTerm(Term.WHO)) {
                return readWho(tape);
            }
            if (tape.isTerm(Term.KIND)) {
                return readKind(tape);
            }
            if (tape.isTerm(Term.MAY)) {
                return readMay(tape);
            }
            if (tape.isTerm(Term.COMB)) {
                return readComb(tape);
            }
            if (tape.isTerm(Term.RANKS)) {
                if (byRanks) {
                    return tape.fails(3, tape.place);
                }
                byRanks = true;
                tape.advance();
                return true;
            }
            if (tape.isTerm(Term.TWICE)) {
                if (twice) {
                    return tape.fails(3, tape.place);
                }
                twice = true;
                tape.advance();
                return true;
            }
            return tape.fails(1, tape.place);
        }

        private boolean isNewName(Tape tape) {
            if (!tape.isName()) {
                return tape.fails(1, tape.place);
            }
            boolean told = whoNamed(tape.letters) != NONE || kindNamed(tape.letters) != NONE;
            return !told || tape.fails(3, tape.place);
        }

        private boolean readWho(Tape tape) {
            if (people >= PEOPLE) {
                return tape.fails(4, tape.place);
            }
            tape.advance();
            if (!isNewName(tape)) {
                return false;
            }
            whoNames[people] = tape.letters;
            tape.advance();
            if (!tape.isNumber(1, FARTHEST)) {
                return false;
            }
            ranks[people] = tape.value;
            people++;
            tape.advance();
            return true;
        }

        private boolean readKind(Tape tape) {
            if (kinds >= KINDS) {
                return tape.fails(4, tape.place);
            }
            tape.advance();
            if (!isNewName(tape)) {
                return false;
            }
            kindNames[kinds] = tape.letters;
            opening[kinds] = 0;
            does[kinds] = 0;
            spans[kinds] = 0;
            answered[kinds] = 0;
            tape.advance();
            if (tape.isTerm(Term.OPENS) || tape.isTerm(Term.BEGINS)) {
                opening[kinds] = tape.isTerm(Term.OPENS) ? OPENS : BEGINS;
                tape.advance();
            }
            if (tape.sort == Tape.WORD && tape.term.does != 0) {
                does[kinds] = tape.term.does;
                tape.advance();
                if (does[kinds] == GRANTS) {
                    if (!tape.isNumber(1, LONGEST)) {
                        return false;
                    }
                    spans[kinds] = tape.value;
                    tape.advance();
                }
            }
            kinds++;
            return true;
        }

        private boolean readMay(Tape tape) {
            if (mays >= MAYS) {
                return tape.fails(4, tape.place);
            }
            tape.advance();
            int kind = tape.kindHere(this);
            if (!hasKind(kind)) {
                return false;
            }
            tape.advance();
            int other = tape.kindHere(this);
            if (!hasKind(other)) {
                return false;
            }
            if (mayAnswer(kind, other)) {
                return tape.fails(3, tape.place);
            }
            answered[kind] |= 1 << other;
            mays++;
            tape.advance();
            return true;
        }

        private boolean readComb(Tape tape) {
            if (combTold) {
                return tape.fails(3, tape.place);
            }
            combTold = true;
            combs = 0;
            tape.advance();
            for (int i = 0; i < COMBS && tape.sort == Tape.NUMBER; i++) {
                if (!tape.isNumber(1, FARTHEST)) {
                    return false;
                }
                comb[i] = tape.value;
                combs++;
                tape.advance();
            }
            if (tape.sort == Tape.NUMBER) {
                return tape.fails(4, tape.place);
            }
            return combs > 0 || tape.fails(1, tape.place);
        }
    }

    /** A TALK at a TABLE: its WORDS, which one each ANSWERS, and what has come of it. */
    private static final class Talk {
        static final int BYTES = 900;
        static final int MOST = 400;

        static final int WHO = 0;
        static final int KIND = 1;
        static final int THREAD = 3;

        static final int ASKED = 1;
        static final int GRANTED = 2;
        static final int REFUSED = 3;
        static final int PROMISE = 4;
        static final int LAPSED = 8;

        Table table;
        int size;
        int begun;
        int why;
        final int[] speakers;
        final int[] sorts;
        final int[] heard;
        final int[] lines;
        final int[] depths;
        /** The STATE of each WORD, but that a LAPSED one stands as open: see stateOf. */
        final int[] states;

        Talk(int most) {
            int room = Math.max(most, 0);
            table = new Table();
            speakers = new int[room];
            sorts = new int[room];
            heard = new int[room];
            lines = new int[room];
            depths = new int[room];
            states = new int[room];
        }

        void begin(Table at) {
            table = at;
            size = 0;
            begun = 0;
        }

        void copy(Talk from) {
            begin(from.table);
            for (int t = 0; t < from.size && t < from.speakers.length; t++) {
                add(from.speakers[t], from.sorts[t]);
            }
        }

        boolean has(int t) {
            return t >= 0 && t < size;
        }

        /** The WORD that the next one would ANSWER; NONE, if it ANSWERS none. */
        private int heardBy(int who, int kind) {
            int t = size - table.reach(who, size);
            return has(t) && table.openingOf(kind) != Table.BEGINS ? t : NONE;
        }

        private boolean repeats(int who) {
            return !table.twice && size > 0 && speakers[size - 1] == who;
        }

        /** Why the next WORD would be WRONG (0: it is not); NONE: there can be no such one. */
        int flaw(int who, int kind) {
            if (!table.hasWho(who) || !table.hasKind(kind) || size >= speakers.length) {
                return NONE;
            }
            if (repeats(who)) {
                return 1;
            }
            int t = heardBy(who, kind);
            int does = table.doingOf(kind);
            if (!has(t)) {
                if (table.openingOf(kind) == 0) {
                    return 2;
                }
                return does >= Table.GRANTS ? 5 : 0;
            }
            if (!table.mayAnswer(kind, sorts[t])) {
                return 3;
            }
            if (speakers[t] == who && does != Table.KEEPS && does != Table.BREAKS) {
                return 4;
            }
            if (does == Table.GRANTS || does == Table.REFUSES) {
                return states[t] == ASKED ? 0 : 5;
            }
            if (does < Table.KEEPS) {
                return 0;
            }
            if (states[t] != PROMISE || size > dueOf(t)) {
                return 5;
            }
            int owner = does == Table.FREES ? promisee(t) : speakers[t];
            return owner == who ? 0 : 6;
        }

        /** The KINDS that a WHO could say next, as bits. */
        int choices(int who) {
            if (repeats(who)) {
                return 0;
            }
            int bits = 0;
            for (int kind = 0; kind < table.kinds; kind++) {
                if (flaw(who, kind) == 0) {
                    bits |= 1 << kind;
                }
            }
            return bits;
        }

        /** The WORD is SAID; whether it is WRONG is looked at before. */
        void add(int who, int kind) {
            if (size >= speakers.length) {
                return;
            }
            int t = heardBy(who, kind);
            int does = table.doingOf(kind);
            speakers[size] = who;
            sorts[size] = kind;
            heard[size] = t;
            states[size] = does == 1 ? ASKED : does == Table.GRANTS ? PROMISE : 0;
            if (has(t)) {
                lines[size] = lines[t];
                depths[size] = depths[t] + 1;
                if (does >= Table.GRANTS) {
                    states[t] = does <= Table.REFUSES ? does : does + 1;
                }
            } else {
                lines[size] = begun;
                depths[size] = 0;
                begun++;
            }
            size++;
        }

        void takeBack() {
            if (size <= 0 || size > speakers.length) {
                return;
            }
            size--;
            int t = heard[size];
            if (!has(t)) {
                begun--;
                return;
            }
            int does = table.doingOf(sorts[size]);
            if (does >= Table.GRANTS) {
                states[t] = does <= Table.REFUSES ? ASKED : PROMISE;
            }
        }

        /** How many next WORDS are not WRONG. */
        int nextOnes() {
            int all = 0;
            for (int who = 0; who < table.people; who++) {
                all += Integer.bitCount(choices(who));
            }
            return all;
        }

        /** Of all next WORDS that are not WRONG (by WHO, then KIND) the n-th one is SAID. */
        void addNext(int n) {
            int left = n;
            for (int who = 0; who < table.people; who++) {
                int bits = choices(who);
                for (int kind = 0; kind < table.kinds; kind++) {
                    if ((bits >> kind & 1) != 0) {
                        if (left == 0) {
                            add(who, kind);
                            return;
                        }
                        left--;
                    }
                }
            }
        }

        int stateOf(int t) {
            if (!has(t)) {
                return 0;
            }
            return states[t] == PROMISE && size - 1 > dueOf(t) ? LAPSED : states[t];
        }

        boolean isSo(int t, int state) {
            return has(t) && stateOf(t) == state;
        }

        /** Whether behind some more WORDS, that many at most, WORD t may come to have the STATE. */
        boolean mayCome(int t, int state, int more) {
            if (!has(t)) {
                return t < size + more;
            }
            int now = stateOf(t);
            if (now == state) {
                return true;
            }
            boolean near = more > 0 && size - t <= Table.FARTHEST;
            if (now == ASKED) {
                return near && (state == GRANTED || state == REFUSED);
            }
            if (now != PROMISE) {
                return false;
            }
            if (state == LAPSED) {
                return size + more - 1 > dueOf(t);
            }
            return near && state > PROMISE && size <= dueOf(t);
        }

        int promisee(int t) {
            if (!has(t) || states[t] < PROMISE) {
                return NONE;
            }
            int asked = heard[t];
            return has(asked) ? speakers[asked] : NONE;
        }

        private int dueOf(int t) {
            return t >= 0 && t < size ? t + table.spanOf(sorts[t]) : NONE;
        }

        int tell(int t, int what) {
            if (!has(t)) {
                return NONE;
            }
            switch (what) {
                case WHO: return speakers[t];
                case KIND: return sorts[t];
                case 2: return heard[t];
                case THREAD: return lines[t];
                case 4: return depths[t];
                case 5: return stateOf(t);
                case 6: return promisee(t);
                default: return states[t] >= PROMISE ? dueOf(t) : NONE;
            }
        }

        /** Reads a TALK from the tape, from no WORDS on; false, if it has a FAULT. */
        boolean read(Tape tape, Table at) {
            begin(at);
            why = 0;
            tape.open(BYTES);
            for (int i = 0; i < Tape.MOST && tape.sort != Tape.STOP; i++) {
                if (!readWord(tape) || !tape.takes(';')) {
                    return false;
                }
            }
            return tape.closes();
        }

        private boolean readWord(Tape tape) {
            int place = tape.place;
            int who = tape.whoHere(table);
            if (who == NONE) {
                return false;
            }
            if (size >= speakers.length) {
                return tape.fails(4, place);
            }
            tape.advance();
            int kind = tape.kindHere(table);
            if (kind == NONE) {
                return false;
            }
            why = flaw(who, kind);
            if (why != 0) {
                return tape.fails(5, place);
            }
            add(who, kind);
            tape.advance();
            return true;
        }
    }

    /** TORN minutes; NONE stands for 'any'. */
    private static final class Minutes {
        static final int BYTES = 300;
        static final int MOST = 24;
        static final int TORN_MOST = 8;

        int size;
        int torn;
        final int[] whos = new int[MOST];
        final int[] sorts = new int[MOST];

        void clear() {
            size = 0;
            torn = 0;
        }

        void copy(Minutes from) {
            size = from.size;
            torn = from.torn;
            System.arraycopy(from.whos, 0, whos, 0, MOST);
            System.arraycopy(from.sorts, 0, sorts, 0, MOST);
        }

        int whoAt(int t) {
            return t >= 0 && t < MOST ? whos[t] : NONE;
        }

        int kindAt(int t) {
            return t >= 0 && t < MOST ? sorts[t] : NONE;
        }

        /** How many ways there are to fill all 'any'. */
        long ways(Table table) {
            long all = 1;
            for (int t = 0; t < size && t < MOST; t++) {
                if (whos[t] == NONE) {
                    all *= table.people;
                }
                if (sorts[t] == NONE) {
                    all *= table.kinds;
                }
            }
            return all;
        }

        /** Reads TORN minutes from the tape; false, if they have a FAULT. */
        boolean read(Tape tape, Table table) {
            clear();
            tape.open(BYTES);
            for (int i = 0; i < Tape.MOST && tape.sort != Tape.STOP; i++) {
                if (!readWord(tape, table) || !tape.takes(';')) {
                    return false;
                }
            }
            return tape.closes();
        }

        private boolean readWord(Tape tape, Table table) {
            int place = tape.place;
            boolean anyone = tape.isTerm(Term.ANY);
            int who = anyone ? NONE : tape.whoHere(table);
            if (!anyone && who == NONE) {
                return false;
            }
            if (size >= MOST || anyone && !tears()) {
                return tape.fails(4, place);
            }
            whos[size] = who;
            tape.advance();
            boolean anything = tape.isTerm(Term.ANY);
            int kind = anything ? NONE : tape.kindHere(table);
            if (!anything && kind == NONE) {
                return false;
            }
            if (anything && !tears()) {
                return tape.fails(4, tape.place);
            }
            sorts[size] = kind;
            size++;
            tape.advance();
            return true;
        }

        private boolean tears() {
            torn++;
            return torn <= TORN_MOST;
        }
    }

    /** A SENTENCE, as a row of steps: each ONE behind its parts, 'and' and 'or' behind both sides. */
    private static final class Sentence {
        static final int BYTES = 200;
        static final int ONES = 20;
        static final int LEVELS = 8;
        static final int STEPS = 64;

        static final int NOT = 0;
        static final int AND = 1;
        static final int OR = 2;
        static final int BY = 3;
        static final int TO = 4;
        static final int IS = 5;
        static final int PLACE = 6;
        static final int THREAD = 7;
        static final int DEPTH = 8;
        static final int STATE = 9;

        int ones;
        int length;
        final int[] steps = new int[STEPS];
        final int[] signs = new int[STEPS];
        final int[] values = new int[STEPS];

        void clear() {
            ones = 0;
            length = 0;
        }

        void copy(Sentence from) {
            ones = from.ones;
            length = from.length;
            System.arraycopy(from.steps, 0, steps, 0, STEPS);
            System.arraycopy(from.signs, 0, signs, 0, STEPS);
            System.arraycopy(from.values, 0, values, 0, STEPS);
        }

        private void put(int step, int sign, int value) {
            if (length < STEPS) {
                steps[length] = step;
                signs[length] = sign;
                values[length] = value;
                length++;
            }
        }

        /** Whether it is said of WORD t; the bits of open are what stands ahead of a step. */
        boolean holds(Talk talk, int t) {
            int open = 0;
            for (int i = 0; i < length && i < STEPS; i++) {
                int last = open & 1;
                if (steps[i] == NOT) {
                    open ^= 1;
                } else if (steps[i] == AND) {
                    open = open >>> 1 & (-2 | last);
                } else if (steps[i] == OR) {
                    open = open >>> 1 | last;
                } else {
                    open = open << 1 | (isSo(talk, t, i) ? 1 : 0);
                }
            }
            return (open & 1) != 0;
        }

        private boolean isSo(Talk talk, int t, int i) {
            if (i < 0 || i >= STEPS) {
                return false;
            }
            switch (steps[i]) {
                case BY: return talk.tell(t, Talk.WHO) == values[i];
                case TO: return talk.tell(talk.tell(t, 2), Talk.WHO) == values[i];
                case IS: return talk.tell(t, Talk.KIND) == values[i];
                case PLACE: return compares(t, signs[i], values[i]);
                case THREAD: return compares(talk.tell(t, Talk.THREAD), signs[i], values[i]);
                case DEPTH: return compares(talk.tell(t, 4), signs[i], values[i]);
                default: return compares(talk.stateOf(t), signs[i], values[i]);
            }
        }

        private static boolean compares(int number, int sign, int value) {
            if (sign == '<') {
                return number < value;
            }
            return sign == '=' ? number == value : number > value;
        }

        /** Reads a SENTENCE from the tape; false, if it has a FAULT. */
        boolean read(Tape tape, Table table) {
            clear();
            tape.open(BYTES);
            return readCond(tape, table, 1) && tape.closes();
        }

        /** A COND: an 'or' waits until what stands on its right side is read, all its 'and' too. */
        private boolean readCond(Tape tape, Table table, int level) {
            boolean waiting = false;
            if (!readOne(tape, table, level)) {
                return false;
            }
            for (int i = 0; i < ONES && (tape.isTerm(Term.AND) || tape.isTerm(Term.OR)); i++) {
                boolean joins = tape.isTerm(Term.AND);
                if (!joins && waiting) {
                    put(OR, 0, 0);
                }
                waiting = waiting || !joins;
                tape.advance();
                if (!readOne(tape, table, level)) {
                    return false;
                }
                if (joins) {
                    put(AND, 0, 0);
                }
            }
            if (waiting) {
                put(OR, 0, 0);
            }
            return true;
        }

        private boolean readOne(Tape tape, Table table, int level) {
            boolean bracket = tape.isSign('(');
            int step = bracket ? NOT : stepHere(tape);
            if (step == NONE) {
                return tape.fails(1, tape.place);
            }
            if (ones >= ONES || level > LEVELS) {
                return tape.fails(4, tape.place);
            }
            ones++;
            tape.advance();
            if (bracket) {
                return readCond(tape, table, level + 1) && tape.takes(')');
            }
            if (step == NOT) {
                boolean read = readOne(tape, table, level + 1);
                put(NOT, 0, 0);
                return read;
            }
            return step <= IS ? readNamed(tape, table, step) : readMeasured(tape, step);
        }

        /** The step of the ONE that a WORD here begins; NONE, if none does. */
        private static int stepHere(Tape tape) {
            if (tape.isTerm(Term.NOT)) {
                return NOT;
            }
            if (tape.isTerm(Term.BY)) {
                return BY;
            }
            if (tape.isTerm(Term.TO)) {
                return TO;
            }
            if (tape.isTerm(Term.IS)) {
                return IS;
            }
            if (tape.isTerm(Term.PLACE)) {
                return PLACE;
            }
            if (tape.isTerm(Term.THREAD)) {
                return THREAD;
            }
            if (tape.isTerm(Term.DEPTH)) {
                return DEPTH;
            }
            return tape.isTerm(Term.STATE) ? STATE : NONE;
        }

        private boolean readNamed(Tape tape, Table table, int step) {
            int number = step == IS ? tape.kindHere(table) : tape.whoHere(table);
            if (number == NONE) {
                return false;
            }
            put(step, 0, number);
            tape.advance();
            return true;
        }

        private boolean readMeasured(Tape tape, int step) {
            if (!tape.isSign('<') && !tape.isSign('=') && !tape.isSign('>')) {
                return tape.fails(1, tape.place);
            }
            int sign = tape.value;
            tape.advance();
            if (tape.sort != Tape.NUMBER) {
                return tape.fails(1, tape.place);
            }
            put(step, sign, tape.value);
            tape.advance();
            return true;
        }
    }

    /** Looks for ROADS and GAMES from a TALK on, and for what two TABLES have UNLIKE. */
    private static final class Search {
        static final int WAYS_MOST = 300000;
        static final int CODE = 16;

        int aimed;
        int state;
        int silent;
        int side;
        final int[] path = new int[ROAD_MOST];
        final int[] found = new int[ROAD_MOST];
        int foundSize;

        /** Whether a number, n times multiplied, is above what may be looked through. */
        static boolean tooMany(int choices, int n) {
            long ways = 1;
            for (int i = 0; i < n; i++) {
                ways *= choices;
                if (ways > WAYS_MOST) {
                    return true;
                }
            }
            return false;
        }

        void keepFound(int length) {
            System.arraycopy(path, 0, found, 0, ROAD_MOST);
            foundSize = length;
        }

        int foundAt(int i) {
            return i >= 0 && i < foundSize && i < ROAD_MOST ? found[i] : NONE;
        }

        void aim(int w, int wanted) {
            aimed = w;
            state = wanted;
        }

        /** The fewest WORDS by which the aim is had if one WHO (NONE: nobody) says nothing. */
        int roadWithout(Talk talk, int who, int most) {
            silent = who;
            for (int n = 0; n <= most; n++) {
                if (leads(talk, 0, n)) {
                    return n;
                }
            }
            return NONE;
        }

        /** Whether the aim is had behind just so many more WORDS; no fewer have been enough. */
        private boolean leads(Talk talk, int at, int more) {
            if (more <= 0 || at >= ROAD_MOST) {
                return talk.isSo(aimed, state);
            }
            if (!talk.mayCome(aimed, state, more)) {
                return false;
            }
            for (int who = 0; who < talk.table.people; who++) {
                int bits = who == silent ? 0 : talk.choices(who);
                for (int kind = 0; kind < talk.table.kinds; kind++) {
                    if ((bits >> kind & 1) != 0) {
                        path[at] = CODE * who + kind;
                        talk.add(who, kind);
                        boolean there = leads(talk, at + 1, more - 1);
                        talk.takeBack();
                        if (there) {
                            return true;
                        }
                    }
                }
            }
            return false;
        }

        /** The fewest WORDS in which the one side can have the aim. */
        int forcedBy(Talk talk, int oneSide, int most) {
            side = oneSide;
            for (int n = 0; n <= most; n++) {
                if (forces(talk, n, true)) {
                    return n;
                }
            }
            return NONE;
        }

        /** Whether the one side has the aim in so many more WORDS at most, whatever the others say. */
        private boolean forces(Talk talk, int more, boolean ownTurn) {
            if (talk.isSo(aimed, state)) {
                return true;
            }
            if (more <= 0 || !talk.mayCome(aimed, state, more)) {
                return false;
            }
            boolean spoken = false;
            for (int who = 0; who < talk.table.people; who++) {
                boolean own = (side >> who & 1) != 0;
                int bits = own == ownTurn ? talk.choices(who) : 0;
                for (int kind = 0; kind < talk.table.kinds; kind++) {
                    if ((bits >> kind & 1) != 0) {
                        spoken = true;
                        talk.add(who, kind);
                        boolean had = forces(talk, more - 1, !ownTurn);
                        talk.takeBack();
                        if (had == ownTurn) {
                            return had;
                        }
                    }
                }
            }
            return spoken && !ownTurn;
        }

        /** How many WORDS the shortest TALK has that just one of the two TABLES has; 0: none. */
        int difference(Talk talk, Talk other, int most) {
            for (int n = 1; n <= most; n++) {
                if (differs(talk, other, 0, n)) {
                    return n;
                }
            }
            return 0;
        }

        /** Whether they differ in the last of just so many more WORDS; in fewer they do not. */
        private boolean differs(Talk talk, Talk other, int at, int more) {
            if (at >= ROAD_MOST) {
                return false;
            }
            int people = Math.max(talk.table.people, other.table.people);
            int kinds = Math.max(talk.table.kinds, other.table.kinds);
            for (int who = 0; who < people; who++) {
                for (int kind = 0; kind < kinds; kind++) {
                    boolean here = talk.flaw(who, kind) == 0;
                    path[at] = CODE * who + kind;
                    if (more <= 1) {
                        if (here != (other.flaw(who, kind) == 0)) {
                            return true;
                        }
                    } else if (here) {
                        talk.add(who, kind);
                        other.add(who, kind);
                        boolean apart = differs(talk, other, at + 1, more - 1);
                        talk.takeBack();
                        other.takeBack();
                        if (apart) {
                            return true;
                        }
                    }
                }
            }
            return false;
        }
    }

    /** Fills TORN minutes in all ways that there can be. */
    private static final class Wholes {
        static final int MOST = 20000;
        static final int MOST_TORN = 100000;
        /** More than there can be of one row of minutes, or of all that are left out or exchanged. */
        static final int NO_END = 1000000;

        int size;
        final int[] whos = new int[Minutes.MOST];
        final int[] sorts = new int[Minutes.MOST];
        /** How many have been filled, and above how many it need not go on. */
        int filled;
        int enough;
        boolean telling;

        int sureSize;
        final int[] sureWhos = new int[Minutes.MOST];
        final int[] sureKinds = new int[Minutes.MOST];
        final int[] sureStates = new int[Minutes.MOST];

        /** How many WHOLES there are by 0, 1 or 2; what is sure of them is kept. */
        int all(Minutes minutes, Talk talk, int by) {
            start(true);
            for (int t = 0; t < Minutes.MOST; t++) {
                sureWhos[t] = 0;
                sureKinds[t] = 0;
                sureStates[t] = 0;
            }
            int rows = by == 0 ? 1 : by == 1 ? minutes.size : minutes.size - 1;
            for (int i = 0; i < rows; i++) {
                take(minutes, by == 1 ? i : NONE);
                if (by == 2) {
                    exchange(i);
                }
                fill(talk, 0);
            }
            sureSize = filled > 0 ? size : 0;
            return filled;
        }

        int sureOf(int t, int what) {
            if (t < 0 || t >= sureSize || t >= Minutes.MOST) {
                return NONE;
            }
            switch (what) {
                case 0: return sureWhos[t];
                case 1: return sureKinds[t];
                case 2: return sureStates[t];
                default: return NONE;
            }
        }

        /** The WORDS without which more could have been, as bits; NONE: there are no WHOLES. */
        int hanging(Minutes minutes, Talk talk) {
            start(false);
            take(minutes, NONE);
            fill(talk, 0);
            int whole = filled;
            if (whole == 0) {
                return NONE;
            }
            int bits = 0;
            for (int t = 0; t < minutes.size; t++) {
                if (minutes.whoAt(t) != NONE && minutes.kindAt(t) != NONE && looser(minutes, talk, t, whole)) {
                    bits |= 1 << t;
                }
            }
            return bits;
        }

        private boolean looser(Minutes minutes, Talk talk, int t, int whole) {
            take(minutes, NONE);
            if (t >= 0 && t < size) {
                whos[t] = NONE;
                sorts[t] = NONE;
            }
            filled = 0;
            enough = whole;
            fill(talk, 0);
            return filled > whole;
        }

        private void start(boolean tells) {
            telling = tells;
            size = 0;
            filled = 0;
            enough = NO_END;
        }

        /** The WORDS of the minutes, but the one that is left out (NONE: none is). */
        private void take(Minutes minutes, int leftOut) {
            size = 0;
            for (int t = 0; t < minutes.size && size < Minutes.MOST; t++) {
                if (t != leftOut) {
                    whos[size] = minutes.whoAt(t);
                    sorts[size] = minutes.kindAt(t);
                    size++;
                }
            }
        }

        private void exchange(int t) {
            if (t < 0 || t + 1 >= size) {
                return;
            }
            int who = whos[t];
            int kind = sorts[t];
            whos[t] = whos[t + 1];
            sorts[t] = sorts[t + 1];
            whos[t + 1] = who;
            sorts[t + 1] = kind;
        }

        private void fill(Talk talk, int at) {
            if (at >= size || at >= Minutes.MOST) {
                filled++;
                if (telling) {
                    markStates(talk);
                }
                return;
            }
            int lastWho = whos[at] == NONE ? talk.table.people - 1 : whos[at];
            int lastKind = sorts[at] == NONE ? talk.table.kinds - 1 : sorts[at];
            for (int who = whos[at] == NONE ? 0 : lastWho; who <= lastWho; who++) {
                for (int kind = sorts[at] == NONE ? 0 : lastKind; kind <= lastKind; kind++) {
                    if (filled <= enough && talk.flaw(who, kind) == 0) {
                        int ahead = filled;
                        talk.add(who, kind);
                        fill(talk, at + 1);
                        talk.takeBack();
                        if (telling && filled > ahead) {
                            sureWhos[at] |= 1 << who;
                            sureKinds[at] |= 1 << kind;
                        }
                    }
                }
            }
        }

        private void markStates(Talk talk) {
            for (int t = 0; t < talk.size && t < Minutes.MOST; t++) {
                sureStates[t] |= 1 << talk.stateOf(t);
            }
        }
    }

    /** MENDED minutes and their ORDERS. */
    private static final class Repair {
        static final int MENDED_MOST = 14;
        static final int ORDERED_MOST = 7;

        /** The fewest WORDS left out so far and which ones, as bits; what mended() tells. */
        int fewest;
        int outs;
        int leftOut = NONE;

        int orders;
        final int[] row = new int[ORDERED_MOST];
        final int[] first = new int[ORDERED_MOST];
        int firstSize;

        int leaveOut(Minutes minutes, Talk talk) {
            fewest = MENDED_MOST + 1;
            outs = 0;
            mendFrom(minutes, talk, 0, 0, 0);
            leftOut = outs;
            return fewest;
        }

        private void mendFrom(Minutes minutes, Talk talk, int at, int gone, int bits) {
            if (gone > fewest) {
                return;
            }
            if (at >= minutes.size || at >= MENDED_MOST) {
                if (gone < fewest || bits < outs) {
                    fewest = gone;
                    outs = bits;
                }
                return;
            }
            int who = minutes.whoAt(at);
            int kind = minutes.kindAt(at);
            if (talk.flaw(who, kind) == 0) {
                talk.add(who, kind);
                mendFrom(minutes, talk, at + 1, gone, bits);
                talk.takeBack();
            }
            mendFrom(minutes, talk, at + 1, gone + 1, bits | 1 << at);
        }

        int arrange(Minutes minutes, Talk talk) {
            orders = 0;
            orderFrom(minutes, talk, 0, 0);
            return orders;
        }

        private void orderFrom(Minutes minutes, Talk talk, int at, int used) {
            if (at >= minutes.size || at >= ORDERED_MOST) {
                if (orders == 0) {
                    System.arraycopy(row, 0, first, 0, ORDERED_MOST);
                    firstSize = at;
                }
                orders++;
                return;
            }
            for (int t = 0; t < minutes.size; t++) {
                int who = minutes.whoAt(t);
                int kind = minutes.kindAt(t);
                if ((used >> t & 1) == 0 && talk.flaw(who, kind) == 0) {
                    row[at] = t;
                    talk.add(who, kind);
                    orderFrom(minutes, talk, at + 1, used | 1 << t);
                    talk.takeBack();
                }
            }
        }

        int placeAt(int i) {
            return i >= 0 && i < firstSize && i < ORDERED_MOST ? first[i] : NONE;
        }
    }

    /** A place in which TABLE, TALK, minutes and SENTENCE are kept. */
    private static final class Image {
        boolean kept;
        final Table table = new Table();
        int size;
        final int[] whos = new int[Talk.MOST];
        final int[] sorts = new int[Talk.MOST];
        final Minutes minutes = new Minutes();
        final Sentence sentence = new Sentence();

        void keep(Table fromTable, Talk talk, Minutes fromMinutes, Sentence fromSentence) {
            kept = true;
            table.copy(fromTable);
            size = 0;
            for (int t = 0; t < talk.size && t < Talk.MOST; t++) {
                whos[t] = talk.tell(t, Talk.WHO);
                sorts[t] = talk.tell(t, Talk.KIND);
                size++;
            }
            minutes.copy(fromMinutes);
            sentence.copy(fromSentence);
        }

        void giveBack(Table toTable, Talk talk, Minutes toMinutes, Sentence toSentence) {
            toTable.copy(table);
            talk.begin(toTable);
            for (int t = 0; t < size && t < Talk.MOST; t++) {
                talk.add(whos[t], sorts[t]);
            }
            toMinutes.copy(minutes);
            toSentence.copy(sentence);
        }
    }
}
