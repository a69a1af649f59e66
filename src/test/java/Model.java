import java.util.ArrayList;
import java.util.Arrays;
import java.util.List;
import java.util.TreeSet;

/**
 * A second program of the same document, as plain and slow as can be: every question is answered
 * from the rows of WORDS alone, and all that can be is tried.
 */
final class Model {
    static final int NONE = -1;
    static final int NEVER = 1000;

    private static final List<String> RESERVED = Arrays.asList("who", "kind", "may", "comb", "ranks", "twice",
        "opens", "begins", "asks", "grants", "refuses", "keeps", "breaks", "frees", "any", "or", "and", "not", "by",
        "to", "is", "place", "thread", "depth", "state");
    private static final List<String> DOES = Arrays.asList("", "asks", "grants", "refuses", "keeps", "breaks", "frees");

    /** A FAULT of a text. */
    static final class Fault extends RuntimeException {
        private static final long serialVersionUID = 1L;
        final int sort;
        final int place;
        final int why;

        Fault(int sort, int place, int why) {
            this.sort = sort;
            this.place = place;
            this.why = why;
        }
    }

    record Kind(String name, int opening, int does, int span) {
    }

    record Who(String name, int rank) {
    }

    record Said(int who, int kind) {
    }

    record Pair(int one, int other) {
    }

    record Token(char sort, String text, int place) {
        boolean is(String other) {
            return sort == 'w' && text.equals(other);
        }

        boolean isName() {
            return sort == 'w' && !RESERVED.contains(text);
        }
    }

    interface Cond {
        boolean holds(List<Said> talk, int t);
    }

    static final class Board {
        int lines;
        final List<Who> people = new ArrayList<>();
        final List<Kind> kinds = new ArrayList<>();
        final List<Pair> mays = new ArrayList<>();
        List<Integer> comb = null;
        boolean ranks;
        boolean twice;

        List<Integer> combs() {
            return comb == null ? Arrays.asList(2) : comb;
        }
    }

    Board board = new Board();
    List<Said> talk = new ArrayList<>();
    List<Said> minutes = new ArrayList<>();
    Cond sentence = null;
    int ones;
    int fault;
    int why;
    List<Said> foundRow = new ArrayList<>();
    int[][] sure = new int[0][];
    int mended = NONE;
    List<Integer> firstOrder = new ArrayList<>();
    final Object[][] kept = new Object[2][];

    // ---- texts

    private List<Token> tokens;
    private int at;
    private boolean tooLong;

    private void tokenise(String text, int limit) {
        tokens = new ArrayList<>();
        at = 0;
        tooLong = text.length() > limit;
        int end = Math.min(limit, text.length());
        int i = 0;
        while (i < end) {
            char c = text.charAt(i);
            if (c == ' ' || c == '\n') {
                i++;
                continue;
            }
            int j = i + 1;
            if (isRun(c)) {
                while (j < text.length() && isRun(text.charAt(j))) {
                    j++;
                }
            }
            String part = text.substring(i, j);
            char sort = part.matches("[a-z]{1,7}") ? 'w' : part.matches("[0-9]{1,3}") ? 'n'
                : part.matches("[;<=>()]") ? part.charAt(0) : '?';
            tokens.add(new Token(sort, part, i));
            i = j;
        }
        tokens.add(new Token('$', "", end));
    }

    private static boolean isRun(char c) {
        return c >= 'a' && c <= 'z' || c >= '0' && c <= '9';
    }

    private Token here() {
        return tokens.get(at);
    }

    private Token take() {
        return tokens.get(at++);
    }

    private static Fault faultAt(int sort, Token token) {
        return new Fault(sort, token.place, 0);
    }

    private void takeSign(char sign) {
        if (here().sort != sign) {
            throw faultAt(1, here());
        }
        at++;
    }

    private void takeEnd() {
        if (here().sort != '$' || tooLong) {
            throw faultAt(1, here());
        }
    }

    private int takeNumber(int low, int high) {
        if (here().sort != 'n') {
            throw faultAt(1, here());
        }
        int value = Integer.parseInt(here().text);
        if (value < low || value > high) {
            throw faultAt(2, here());
        }
        at++;
        return value;
    }

    private static int whoNamed(Board b, String name) {
        for (int i = 0; i < b.people.size(); i++) {
            if (b.people.get(i).name.equals(name)) {
                return i;
            }
        }
        return NONE;
    }

    private static int kindNamed(Board b, String name) {
        for (int i = 0; i < b.kinds.size(); i++) {
            if (b.kinds.get(i).name.equals(name)) {
                return i;
            }
        }
        return NONE;
    }

    private int toldWho(Board b) {
        if (!here().isName()) {
            throw faultAt(1, here());
        }
        int who = whoNamed(b, here().text);
        if (who < 0) {
            throw faultAt(3, here());
        }
        return who;
    }

    private int toldKind(Board b) {
        if (!here().isName()) {
            throw faultAt(1, here());
        }
        int kind = kindNamed(b, here().text);
        if (kind < 0) {
            throw faultAt(3, here());
        }
        return kind;
    }

    private int answer(Runnable reading, java.util.function.IntSupplier size) {
        fault = 0;
        try {
            reading.run();
        } catch (Fault f) {
            fault = f.sort;
            why = f.why == 0 ? why : f.why;
            return -1 - f.place;
        }
        return size.getAsInt();
    }

    int table(String text) {
        return answer(() -> readTable(text), () -> board.lines);
    }

    private void readTable(String text) {
        tokenise(text, 900);
        Board b = new Board();
        while (here().sort != '$') {
            readLine(b);
            takeSign(';');
            b.lines++;
        }
        takeEnd();
        board = b;
        talk = new ArrayList<>();
        minutes = new ArrayList<>();
        sentence = null;
    }

    private String newName(Board b) {
        if (!here().isName()) {
            throw faultAt(1, here());
        }
        String name = here().text;
        if (whoNamed(b, name) >= 0 || kindNamed(b, name) >= 0) {
            throw faultAt(3, here());
        }
        at++;
        return name;
    }

    private void readLine(Board b) {
        Token first = take();
        if (first.is("who")) {
            if (b.people.size() == 8) {
                throw faultAt(4, first);
            }
            String name = newName(b);
            b.people.add(new Who(name, takeNumber(1, 6)));
        } else if (first.is("kind")) {
            if (b.kinds.size() == 10) {
                throw faultAt(4, first);
            }
            String name = newName(b);
            int opening = here().is("opens") ? 1 : here().is("begins") ? 2 : 0;
            at += opening > 0 ? 1 : 0;
            int does = here().sort == 'w' ? Math.max(0, DOES.indexOf(here().text)) : 0;
            at += does > 0 ? 1 : 0;
            int span = does == 2 ? takeNumber(1, 99) : 0;
            b.kinds.add(new Kind(name, opening, does, span));
        } else if (first.is("may")) {
            if (b.mays.size() == 40) {
                throw faultAt(4, first);
            }
            int one = toldKind(b);
            at++;
            int other = toldKind(b);
            if (b.mays.contains(new Pair(one, other))) {
                throw faultAt(3, here());
            }
            at++;
            b.mays.add(new Pair(one, other));
        } else if (first.is("comb")) {
            if (b.comb != null) {
                throw faultAt(3, first);
            }
            b.comb = new ArrayList<>();
            b.comb.add(takeNumber(1, 6));
            while (here().sort == 'n') {
                if (b.comb.size() == 6) {
                    throw faultAt(4, here());
                }
                b.comb.add(takeNumber(1, 6));
            }
        } else if (first.is("ranks")) {
            if (b.ranks) {
                throw faultAt(3, first);
            }
            b.ranks = true;
        } else if (first.is("twice")) {
            if (b.twice) {
                throw faultAt(3, first);
            }
            b.twice = true;
        } else {
            throw faultAt(1, first);
        }
    }

    int talkText(String text) {
        why = 0;
        return answer(() -> readTalk(text), () -> talk.size());
    }

    private void readTalk(String text) {
        tokenise(text, 900);
        List<Said> row = new ArrayList<>();
        while (here().sort != '$') {
            Token first = here();
            int who = toldWho(board);
            at++;
            int kind = toldKind(board);
            at++;
            int flaw = flaw(board, row, who, kind);
            if (flaw != 0) {
                throw new Fault(5, first.place, flaw);
            }
            row.add(new Said(who, kind));
            takeSign(';');
        }
        takeEnd();
        talk = row;
    }

    int minutesText(String text) {
        return answer(() -> readMinutes(text), () -> minutes.size());
    }

    private void readMinutes(String text) {
        tokenise(text, 300);
        List<Said> row = new ArrayList<>();
        int torn = 0;
        while (here().sort != '$') {
            int who = here().is("any") ? NONE : toldWho(board);
            if (row.size() == 24 || who == NONE && ++torn > 8) {
                throw faultAt(4, here());
            }
            at++;
            int kind = here().is("any") ? NONE : toldKind(board);
            if (kind == NONE && ++torn > 8) {
                throw faultAt(4, here());
            }
            at++;
            takeSign(';');
            row.add(new Said(who, kind));
        }
        takeEnd();
        minutes = row;
    }

    private int counted;

    int sentenceText(String text) {
        return answer(() -> readSentence(text), () -> ones);
    }

    private void readSentence(String text) {
        tokenise(text, 200);
        counted = 0;
        Cond cond = readOr(1);
        takeEnd();
        sentence = cond;
        ones = counted;
    }

    private Cond readOr(int level) {
        Cond left = readAnd(level);
        while (here().is("or")) {
            at++;
            Cond one = left;
            Cond other = readAnd(level);
            left = (row, t) -> one.holds(row, t) || other.holds(row, t);
        }
        return left;
    }

    private Cond readAnd(int level) {
        Cond left = readOne(level);
        while (here().is("and")) {
            at++;
            Cond one = left;
            Cond other = readOne(level);
            left = (row, t) -> one.holds(row, t) && other.holds(row, t);
        }
        return left;
    }

    private Cond readOne(int level) {
        Token first = here();
        if (first.sort != '(' && !(first.sort == 'w' && RESERVED.indexOf(first.text) >= RESERVED.indexOf("not"))) {
            throw faultAt(1, first);
        }
        if (counted == 20 || level == 9) {
            throw faultAt(4, first);
        }
        counted++;
        at++;
        if (first.sort == '(') {
            Cond inner = readOr(level + 1);
            takeSign(')');
            return inner;
        }
        switch (first.text) {
            case "not": {
                Cond inner = readOne(level + 1);
                return (row, t) -> !inner.holds(row, t);
            }
            case "by": {
                int who = toldWho(board);
                at++;
                return (row, t) -> row.get(t).who == who;
            }
            case "to": {
                int who = toldWho(board);
                at++;
                return (row, t) -> heard(board, row, t) != NONE && row.get(heard(board, row, t)).who == who;
            }
            case "is": {
                int kind = toldKind(board);
                at++;
                return (row, t) -> row.get(t).kind == kind;
            }
            default: {
                char sign = here().sort;
                if (sign != '<' && sign != '=' && sign != '>') {
                    throw faultAt(1, here());
                }
                at++;
                int number = takeNumber(0, 999);
                return (row, t) -> {
                    int have = first.text.equals("place") ? t : first.text.equals("thread") ? thread(board, row, t)
                        : first.text.equals("depth") ? depth(board, row, t) : state(board, row, t);
                    return sign == '<' ? have < number : sign == '=' ? have == number : have > number;
                };
            }
        }
    }

    // ---- a row of WORDS at a TABLE

    static int heard(Board b, List<Said> row, int t) {
        return heardBy(b, row.get(t), t);
    }

    private static int heardBy(Board b, Said said, int t) {
        if (b.kinds.get(said.kind).opening == 2) {
            return NONE;
        }
        int k = b.ranks ? b.people.get(said.who).rank : b.combs().get(t % b.combs().size());
        return Math.max(NONE, t - k);
    }

    static int depth(Board b, List<Said> row, int t) {
        int h = heard(b, row, t);
        return h == NONE ? 0 : 1 + depth(b, row, h);
    }

    static int thread(Board b, List<Said> row, int t) {
        int h = heard(b, row, t);
        if (h != NONE) {
            return thread(b, row, h);
        }
        int before = 0;
        for (int u = 0; u < t; u++) {
            before += heard(b, row, u) == NONE ? 1 : 0;
        }
        return before;
    }

    static int does(Board b, List<Said> row, int t) {
        return b.kinds.get(row.get(t).kind).does;
    }

    static int state(Board b, List<Said> row, int t) {
        int does = does(b, row, t);
        if (does != 1 && does != 2) {
            return 0;
        }
        for (int u = t + 1; u < row.size(); u++) {
            if (heard(b, row, u) == t) {
                int then = does(b, row, u);
                if (does == 1 && (then == 2 || then == 3)) {
                    return then;
                }
                if (does == 2 && then >= 4) {
                    return then + 1;
                }
            }
        }
        if (does == 1) {
            return 1;
        }
        return row.size() - 1 - t > b.kinds.get(row.get(t).kind).span ? 8 : 4;
    }

    static int flaw(Board b, List<Said> row, int who, int kind) {
        if (who < 0 || kind < 0 || who >= b.people.size() || kind >= b.kinds.size() || row.size() == 400) {
            return NONE;
        }
        int t = row.size();
        int h = heardBy(b, new Said(who, kind), t);
        Kind k = b.kinds.get(kind);
        TreeSet<Integer> flaws = new TreeSet<>();
        if (t > 0 && row.get(t - 1).who == who && !b.twice) {
            flaws.add(1);
        }
        if (h == NONE && k.opening == 0) {
            flaws.add(2);
        }
        if (h != NONE && !b.mays.contains(new Pair(kind, row.get(h).kind))) {
            flaws.add(3);
        }
        if (h != NONE && row.get(h).who == who && k.does != 4 && k.does != 5) {
            flaws.add(4);
        }
        int state = h == NONE ? 0 : state(b, row, h);
        if ((k.does == 2 || k.does == 3) && state != 1) {
            flaws.add(5);
        }
        boolean open = state == 4 && t - h <= b.kinds.get(row.get(h).kind).span;
        if (k.does >= 4 && !open) {
            flaws.add(5);
        }
        if (open && (k.does == 4 || k.does == 5) && row.get(h).who != who) {
            flaws.add(6);
        }
        if (open && k.does == 6 && row.get(heard(b, row, h)).who != who) {
            flaws.add(6);
        }
        return flaws.isEmpty() ? 0 : flaws.first();
    }

    static boolean stands(Board b, List<Said> row) {
        for (int t = 0; t < row.size(); t++) {
            if (flaw(b, row.subList(0, t), row.get(t).who, row.get(t).kind) != 0) {
                return false;
            }
        }
        return true;
    }

    static List<Said> and(List<Said> row, Said more) {
        List<Said> longer = new ArrayList<>(row);
        longer.add(more);
        return longer;
    }

    static List<Said> nextOnes(Board b, List<Said> row) {
        List<Said> all = new ArrayList<>();
        for (int who = 0; who < b.people.size(); who++) {
            for (int kind = 0; kind < b.kinds.size(); kind++) {
                if (flaw(b, row, who, kind) == 0) {
                    all.add(new Said(who, kind));
                }
            }
        }
        return all;
    }

    // ---- calls

    int word(int t, int what) {
        if (t < 0 || t >= talk.size() || what < 0 || what > 7) {
            return Due.THROWS;
        }
        int h = heard(board, talk, t);
        boolean grants = does(board, talk, t) == 2;
        int[] all = {talk.get(t).who, talk.get(t).kind, h, thread(board, talk, t), depth(board, talk, t),
            state(board, talk, t), grants ? talk.get(h).who : NONE,
            grants ? t + board.kinds.get(talk.get(t).kind).span : NONE};
        return all[what];
    }

    int kind(int k, int what) {
        if (k < 0 || k >= board.kinds.size() || what < 0 || what > 3) {
            return Due.THROWS;
        }
        int bits = 0;
        for (Pair pair : board.mays) {
            bits |= pair.one == k ? 1 << pair.other : 0;
        }
        Kind kind = board.kinds.get(k);
        return new int[] {kind.opening, kind.does, kind.span, bits}[what];
    }

    int say(int who, int kind) {
        int flaw = flaw(board, talk, who, kind);
        if (flaw == 0) {
            talk = and(talk, new Said(who, kind));
        }
        return flaw;
    }

    int may(int who) {
        if (who < 0 || who >= board.people.size()) {
            return NONE;
        }
        int bits = 0;
        for (Said said : nextOnes(board, talk)) {
            bits |= said.who == who ? 1 << said.kind : 0;
        }
        return bits;
    }

    int undo() {
        if (talk.isEmpty()) {
            return NONE;
        }
        talk = new ArrayList<>(talk.subList(0, talk.size() - 1));
        return talk.size();
    }

    int drawn(int n, int seed) {
        if (n < 1 || n > 400) {
            return NONE;
        }
        int x = seed;
        for (int i = 0; i < n; i++) {
            List<Said> all = nextOnes(board, talk);
            if (all.isEmpty()) {
                return i;
            }
            x = x * 1103515245 + 12345;
            talk = and(talk, all.get((x >>> 8) % all.size()));
        }
        return n;
    }

    int threads() {
        int all = 0;
        for (int t = 0; t < talk.size(); t++) {
            all += heard(board, talk, t) == NONE ? 1 : 0;
        }
        return all;
    }

    private static int numberOrSize(List<Integer> list, int k) {
        return k == NONE ? list.size() : k >= 0 && k < list.size() ? list.get(k) : NONE;
    }

    int thread(int n, int k) {
        List<Integer> list = new ArrayList<>();
        for (int t = 0; t < talk.size(); t++) {
            if (thread(board, talk, t) == n) {
                list.add(t);
            }
        }
        return list.isEmpty() ? NONE : numberOrSize(list, k);
    }

    int with(int state, int k) {
        List<Integer> list = new ArrayList<>();
        for (int t = 0; t < talk.size(); t++) {
            if (state(board, talk, t) == state) {
                list.add(t);
            }
        }
        return state < 1 || state > 8 ? NONE : numberOrSize(list, k);
    }

    int promised(int a, int b, int state) {
        int people = board.people.size();
        if (a < 0 || b < 0 || a >= people || b >= people || state != 0 && (state < 4 || state > 8)) {
            return NONE;
        }
        int all = 0;
        for (int t = 0; t < talk.size(); t++) {
            boolean theirs = word(t, 0) == a && word(t, 6) == b;
            all += theirs && (state == 0 || state(board, talk, t) == state) ? 1 : 0;
        }
        return all;
    }

    int spoke(int who, int kind) {
        if (who < NONE || kind < NONE || who >= board.people.size() || kind >= board.kinds.size()) {
            return NONE;
        }
        int all = 0;
        for (Said said : talk) {
            all += (who == NONE || who == said.who) && (kind == NONE || kind == said.kind) ? 1 : 0;
        }
        return all;
    }

    int said(int k) {
        if (sentence == null) {
            return NONE;
        }
        List<Integer> list = new ArrayList<>();
        for (int t = 0; t < talk.size(); t++) {
            if (sentence.holds(talk, t)) {
                list.add(t);
            }
        }
        return numberOrSize(list, k);
    }

    // ---- TORN minutes

    static double ways(Board b, List<Said> row) {
        double all = 1;
        for (Said said : row) {
            all *= said.who == NONE ? b.people.size() : 1;
            all *= said.kind == NONE ? b.kinds.size() : 1;
        }
        return all;
    }

    static List<List<Said>> fillings(Board b, List<Said> row) {
        List<List<Said>> all = new ArrayList<>();
        all.add(new ArrayList<>());
        for (Said said : row) {
            List<List<Said>> longer = new ArrayList<>();
            for (List<Said> begun : all) {
                for (int who = 0; who < b.people.size(); who++) {
                    for (int kind = 0; kind < b.kinds.size(); kind++) {
                        boolean fits = (said.who == NONE || said.who == who) && (said.kind == NONE || said.kind == kind);
                        if (fits) {
                            longer.add(and(begun, new Said(who, kind)));
                        }
                    }
                }
            }
            all = longer;
        }
        List<List<Said>> good = new ArrayList<>();
        for (List<Said> filled : all) {
            if (stands(b, filled)) {
                good.add(filled);
            }
        }
        return good;
    }

    int wholes(int by) {
        if (by < 0 || by > 2) {
            return NONE;
        }
        if (ways(board, minutes) > 20000) {
            return -2;
        }
        List<List<Said>> rows = new ArrayList<>();
        for (int i = 0; i < minutes.size(); i++) {
            List<Said> row = new ArrayList<>(minutes);
            if (by == 1) {
                row.remove(i);
                rows.add(row);
            } else if (by == 2 && i > 0) {
                row.set(i, minutes.get(i - 1));
                row.set(i - 1, minutes.get(i));
                rows.add(row);
            }
        }
        if (by == 0) {
            rows.add(minutes);
        }
        List<List<Said>> all = new ArrayList<>();
        for (List<Said> row : rows) {
            all.addAll(fillings(board, row));
        }
        sure = new int[all.isEmpty() ? 0 : all.get(0).size()][3];
        for (List<Said> whole : all) {
            for (int t = 0; t < whole.size(); t++) {
                sure[t][0] |= 1 << whole.get(t).who;
                sure[t][1] |= 1 << whole.get(t).kind;
                sure[t][2] |= 1 << state(board, whole, t);
            }
        }
        return all.size();
    }

    int sure(int t, int what) {
        return t < 0 || t >= sure.length || what < 0 || what > 2 ? NONE : sure[t][what];
    }

    int hangs() {
        if (ways(board, minutes) * board.people.size() * board.kinds.size() > 100000) {
            return -2;
        }
        int whole = fillings(board, minutes).size();
        int bits = 0;
        for (int i = 0; i < minutes.size(); i++) {
            if (minutes.get(i).who != NONE && minutes.get(i).kind != NONE) {
                List<Said> row = new ArrayList<>(minutes);
                row.set(i, new Said(NONE, NONE));
                bits |= fillings(board, row).size() > whole ? 1 << i : 0;
            }
        }
        return whole == 0 ? NONE : bits;
    }

    private boolean torn() {
        for (Said said : minutes) {
            if (said.who == NONE || said.kind == NONE) {
                return true;
            }
        }
        return false;
    }

    int mend() {
        if (torn() || minutes.size() > 14) {
            return NONE;
        }
        int best = NEVER;
        for (int out = 0; out < 1 << minutes.size(); out++) {
            List<Said> row = new ArrayList<>();
            for (int i = 0; i < minutes.size(); i++) {
                if ((out >> i & 1) == 0) {
                    row.add(minutes.get(i));
                }
            }
            if (Integer.bitCount(out) < best && stands(board, row)) {
                best = Integer.bitCount(out);
                mended = out;
            }
        }
        return best;
    }

    int orders() {
        if (torn() || minutes.size() > 7) {
            return NONE;
        }
        List<List<Integer>> all = new ArrayList<>();
        permute(new ArrayList<>(), all);
        int good = 0;
        for (List<Integer> order : all) {
            List<Said> row = new ArrayList<>();
            for (int place : order) {
                row.add(minutes.get(place));
            }
            if (stands(board, row)) {
                if (good == 0) {
                    firstOrder = order;
                }
                good++;
            }
        }
        return good;
    }

    private void permute(List<Integer> begun, List<List<Integer>> all) {
        if (begun.size() == minutes.size()) {
            all.add(new ArrayList<>(begun));
            return;
        }
        for (int i = 0; i < minutes.size(); i++) {
            if (!begun.contains(i)) {
                begun.add(i);
                permute(begun, all);
                begun.remove(begun.size() - 1);
            }
        }
    }

    int orderAt(int i) {
        return i >= 0 && i < firstOrder.size() ? firstOrder.get(i) : NONE;
    }

    // ---- ROAD, GAME, UNLIKE

    static double power(int base, int n) {
        return Math.pow(base, n);
    }

    int road(int silent, int w, int state, int n) {
        if (w < 0 || w > 399 || state < 0 || state > 8 || n < 1 || n > 8) {
            return -3;
        }
        if (power(board.people.size() * board.kinds.size(), n) > 300000) {
            return -2;
        }
        List<List<Said>> level = new ArrayList<>();
        level.add(talk);
        for (int m = 0; m <= n; m++) {
            for (List<Said> row : level) {
                if (w < row.size() && state(board, row, w) == state) {
                    if (silent == NONE) {
                        foundRow = new ArrayList<>(row.subList(talk.size(), row.size()));
                    }
                    return m;
                }
            }
            List<List<Said>> next = new ArrayList<>();
            for (List<Said> row : level) {
                for (Said said : nextOnes(board, row)) {
                    if (said.who != silent) {
                        next.add(and(row, said));
                    }
                }
            }
            level = next;
        }
        return NONE;
    }

    int without(int who, int w, int state, int n) {
        return who < 0 || who >= board.people.size() ? -3 : road(who, w, state, n);
    }

    int game(int side, int w, int state, int n) {
        int people = board.people.size();
        if (w < 0 || w >= talk.size() || state < 0 || state > 8 || n < 1 || n > 8 || side < 0 || side >= 1 << people
            || Integer.bitCount(side) == 0 || Integer.bitCount(side) == people) {
            return -3;
        }
        if (power(people * board.kinds.size(), n) > 300000) {
            return -2;
        }
        int words = value(talk, side, true, w, state, n);
        return words > n ? NONE : words;
    }

    private int value(List<Said> row, int side, boolean own, int w, int state, int n) {
        if (state(board, row, w) == state) {
            return 0;
        }
        int least = NEVER;
        int most = NONE;
        for (Said said : n == 0 ? new ArrayList<Said>() : nextOnes(board, row)) {
            if ((side >> said.who & 1) == (own ? 1 : 0)) {
                int then = 1 + value(and(row, said), side, !own, w, state, n - 1);
                least = Math.min(least, then);
                most = Math.max(most, then);
            }
        }
        return own || most == NONE ? least : most;
    }

    int unlike(int k, int n) {
        if (k < 0 || k > 1 || kept[k] == null || n < 1 || n > 6) {
            return -3;
        }
        Board other = (Board) kept[k][0];
        int people = Math.max(board.people.size(), other.people.size());
        int kinds = Math.max(board.kinds.size(), other.kinds.size());
        if (power(people * kinds, n) > 300000) {
            return -2;
        }
        List<List<Said>> level = new ArrayList<>();
        level.add(new ArrayList<>());
        for (int m = 1; m <= n; m++) {
            List<List<Said>> next = new ArrayList<>();
            for (List<Said> row : level) {
                for (int who = 0; who < people; who++) {
                    for (int kind = 0; kind < kinds; kind++) {
                        boolean one = flaw(board, row, who, kind) == 0;
                        boolean another = flaw(other, row, who, kind) == 0;
                        List<Said> longer = and(row, new Said(who, kind));
                        if (one != another) {
                            foundRow = longer;
                            return m;
                        }
                        if (one) {
                            next.add(longer);
                        }
                    }
                }
            }
            level = next;
        }
        return 0;
    }

    int found(int i) {
        return i >= 0 && i < foundRow.size() ? 16 * foundRow.get(i).who + foundRow.get(i).kind : NONE;
    }

    boolean image(int k) {
        if (k < 0 || k > 1) {
            return false;
        }
        kept[k] = new Object[] {board, talk, minutes, sentence, ones};
        return true;
    }

    @SuppressWarnings("unchecked")
    boolean restore(int k) {
        if (k < 0 || k > 1 || kept[k] == null) {
            return false;
        }
        board = (Board) kept[k][0];
        talk = (List<Said>) kept[k][1];
        minutes = (List<Said>) kept[k][2];
        sentence = (Cond) kept[k][3];
        ones = (Integer) kept[k][4];
        return true;
    }

    int count(int what) {
        int[] all = {board.people.size(), board.kinds.size(), board.mays.size(), board.combs().size(),
            board.ranks ? 1 : 0, board.twice ? 1 : 0, talk.size(), minutes.size()};
        return what >= 0 && what < 8 ? all[what] : NONE;
    }
}
