import java.util.Random;

/** Random runs of calls (the same ones each time), each answer compared with the Model's. */
final class ModelTest {
    private static final int RUNS = 700;
    private static final int CALLS = 480;
    private static final String WHOS = "abcdefghi";
    private static final String KINDS = "pqrstuvxyzk";
    private static final String[] DOES = {"", "", "asks", "asks", "grants", "grants", "refuses", "keeps", "breaks",
        "frees"};

    private final Random random;
    private final int run;
    private final CombTable x = new CombTable();
    private final Model m = new Model();
    private int calls = 0;

    private ModelTest(int run) {
        this.run = run;
        this.random = new Random(run);
    }

    private int below(int n) {
        return random.nextInt(n);
    }

    private void is(String call, long want, long got) {
        calls++;
        Due.is("run " + run + ": " + call, want, got);
    }

    private void is(String call, boolean want, boolean got) {
        is(call, want ? 1 : 0, got ? 1 : 0);
    }

    private void feed(String text) {
        Due.feed(x, text);
        calls += text.length() / 20 + 2;
    }

    private String blanks() {
        return below(12) == 0 ? below(2) == 0 ? "\n" : "  " : "";
    }

    private String tableText(int people, int kinds) {
        StringBuilder text = new StringBuilder();
        for (int i = 0; i < people; i++) {
            text.append("who ").append(WHOS.charAt(i)).append(' ').append(1 + below(below(3) == 0 ? 6 : 3)).append(";")
                .append(blanks());
        }
        for (int i = 0; i < kinds; i++) {
            String does = i == 0 ? "asks" : i == 1 ? "grants" : i == 2 ? DOES[6 + below(4)]
                : DOES[below(DOES.length)];
            int open = i == 0 ? 1 : below(8);
            text.append("kind ").append(KINDS.charAt(i)).append(open < 3 ? " opens " : open < 5 ? " begins " : " ")
                .append(does).append(does.equals("grants") ? " " + (1 + below(5)) : "").append(";").append(blanks());
        }
        int some = 3 + below(8);
        for (int i = 0; i < kinds; i++) {
            for (int j = 0; j < kinds; j++) {
                boolean likely = j < 2 && below(4) > 0;
                if ((likely || below(10) < some) && text.length() < 850) {
                    text.append("may ").append(KINDS.charAt(i)).append(' ').append(KINDS.charAt(j)).append(';');
                }
            }
        }
        int turns = below(5);
        if (turns > 1) {
            text.append("comb");
            for (int i = 0; i < turns; i++) {
                text.append(' ').append(1 + below(below(4) == 0 ? 6 : 3));
            }
            text.append(';');
        }
        text.append(below(4) == 0 ? "ranks;" : "").append(below(3) == 0 ? "twice;" : "");
        return text.toString();
    }

    private String whoName() {
        int people = m.board.people.size();
        return people == 0 || below(40) == 0 ? "" + WHOS.charAt(below(9)) : m.board.people.get(below(people)).name();
    }

    private String kindName() {
        int kinds = m.board.kinds.size();
        return kinds == 0 || below(40) == 0 ? "" + KINDS.charAt(below(11)) : m.board.kinds.get(below(kinds)).name();
    }

    private String minutesText(int torn, int most) {
        StringBuilder text = new StringBuilder();
        int words = below(most + 1);
        java.util.List<Model.Said> row = new java.util.ArrayList<>();
        for (int i = 0; i < words; i++) {
            java.util.List<Model.Said> next = Model.nextOnes(m.board, row);
            String who = whoName();
            String kind = kindName();
            if (!next.isEmpty() && below(12) > 0) {
                Model.Said said = next.get(below(next.size()));
                row.add(said);
                who = m.board.people.get(said.who()).name();
                kind = m.board.kinds.get(said.kind()).name();
            }
            text.append(below(20) < torn ? "any" : who).append(' ').append(below(20) < torn ? "any" : kind)
                .append(';').append(blanks());
        }
        return text.toString();
    }

    private String condText(int level) {
        StringBuilder text = new StringBuilder(oneText(level));
        for (int i = below(3); i > 0; i--) {
            text.append(below(2) == 0 ? " and " : " or ").append(oneText(level));
        }
        return text.toString();
    }

    private String oneText(int level) {
        String[] measures = {"place", "thread", "depth", "state"};
        String[] signs = {"<", "=", ">"};
        switch (below(level > 6 ? 4 : 6)) {
            case 0: return "by " + whoName();
            case 1: return "to " + whoName();
            case 2: return "is " + kindName();
            case 3: return measures[below(4)] + blanks() + signs[below(3)] + below(9);
            case 4: return "not " + oneText(level + 1);
            default: return "(" + condText(level + 1) + ")";
        }
    }

    /** The text, now and then with a byte changed, left out or put in. */
    private String spoiled(String text) {
        if (below(4) > 0 || text.isEmpty()) {
            return text;
        }
        String letters = "abcopqrw ;<=>().0179\n";
        StringBuilder spoiled = new StringBuilder(text);
        for (int i = below(3); i >= 0; i--) {
            int place = below(spoiled.length());
            char c = letters.charAt(below(letters.length()));
            switch (below(4)) {
                case 0: spoiled.setCharAt(place, c); break;
                case 1: spoiled.insert(place, c); break;
                case 2: spoiled.setLength(place + 1); break;
                default: spoiled.deleteCharAt(place); break;
            }
            if (spoiled.length() == 0) {
                return "";
            }
        }
        return spoiled.substring(0, Math.min(940, spoiled.length()));
    }

    private void readTable() {
        String text = spoiled(tableText(1 + below(4), 2 + below(6)));
        feed(text);
        is("table of " + text, m.table(text), x.table());
        is("fault", m.fault, x.fault());
        for (int what = -1; what < 8; what++) {
            is("count(" + what + ")", m.count(what), x.count(what));
        }
    }

    private void readTalk() {
        String text = spoiled(minutesText(0, 14));
        feed(text);
        is("talk of " + text, m.talkText(text), x.talk());
        is("fault", m.fault, x.fault());
        is("why", m.why, x.why());
    }

    private void readMinutes() {
        String text = spoiled(minutesText(below(3) * 2, below(3) == 0 ? 14 : 6));
        feed(text);
        is("minutes of " + text, m.minutesText(text), x.minutes());
        is("fault", m.fault, x.fault());
        is("count(7)", m.count(7), x.count(7));
        repairs();
        torn();
    }

    private void repairs() {
        if (m.minutes.size() <= 9 || m.minutes.size() > 14) {
            is("mend", m.mend(), x.mend());
            is("mended", m.mended, x.mended());
        }
        if (m.minutes.size() <= 6 || m.minutes.size() > 7) {
            is("orders", m.orders(), x.orders());
            for (int i = -1; i < 7; i++) {
                is("orderAt(" + i + ")", m.orderAt(i), x.orderAt(i));
            }
        }
    }

    private void torn() {
        double ways = Model.ways(m.board, m.minutes);
        int by = below(5) == 0 ? below(6) - 2 : below(3);
        if (ways <= 400 || ways > 20000) {
            is("wholes(" + by + ")", m.wholes(by), x.wholes(by));
            for (int what = -1; what < 4; what++) {
                int t = below(m.minutes.size() + 2) - 1;
                is("sure(" + t + ", " + what + ")", m.sure(t, what), x.sure(t, what));
            }
        }
        double tornWays = ways * m.board.people.size() * m.board.kinds.size();
        if (tornWays <= 500 || tornWays > 100000) {
            is("hangs", m.hangs(), x.hangs());
        }
    }

    private void readSentence() {
        String text = spoiled(condText(1));
        if (text.length() > 200) {
            return;
        }
        feed(text);
        is("sentence of " + text, m.sentenceText(text), x.sentence());
        is("fault", m.fault, x.fault());
        for (int k = -2; k < 3; k++) {
            is("said(" + k + ")", m.said(k), x.said(k));
        }
    }

    private void speak() {
        int who = below(m.board.people.size() + 2) - 1;
        int kind = below(m.board.kinds.size() + 2) - 1;
        for (int p = 0; p < m.board.people.size(); p++) {
            for (int k = 0; k < m.board.kinds.size(); k++) {
                is("wrong(" + p + ", " + k + ")", Model.flaw(m.board, m.talk, p, k), x.wrong(p, k));
            }
        }
        is("wrong(" + who + ", " + kind + ")", Model.flaw(m.board, m.talk, who, kind), x.wrong(who, kind));
        is("say(" + who + ", " + kind + ")", m.say(who, kind), x.say(who, kind));
        is("may(" + who + ")", m.may(who), x.may(who));
        if (below(3) == 0) {
            is("undo", m.undo(), x.undo());
        }
        if (below(3) == 0) {
            int n = below(6);
            int seed = random.nextInt();
            is("drawn(" + n + ", " + seed + ")", m.drawn(n, seed), x.drawn(n, seed));
        }
        if (m.talk.size() > 20) {
            for (int i = 0; i < 12; i++) {
                is("undo", m.undo(), x.undo());
            }
        }
        is("count(6)", m.count(6), x.count(6));
    }

    private void tell() {
        int t = below(m.talk.size() + 2) - 1;
        for (int what = -1; what < 9; what++) {
            is("word(" + t + ", " + what + ")", m.word(t, what), Due.word(x, t, what));
        }
        int k = below(m.board.kinds.size() + 2) - 1;
        for (int what = -1; what < 5; what++) {
            is("kind(" + k + ", " + what + ")", m.kind(k, what), Due.kind(x, k, what));
        }
        is("threads", m.threads(), x.threads());
        int n = below(m.threads() + 2) - 1;
        int place = below(5) - 2;
        is("thread(" + n + ", " + place + ")", m.thread(n, place), x.thread(n, place));
        int state = below(10);
        is("with(" + state + ", " + place + ")", m.with(state, place), x.with(state, place));
        int a = below(m.board.people.size() + 2) - 1;
        int b = below(m.board.people.size() + 2) - 1;
        is("promised(" + a + ", " + b + ", " + state + ")", m.promised(a, b, state), x.promised(a, b, state));
        is("spoke(" + a + ", " + k + ")", m.spoke(a, k), x.spoke(a, k));
        is("said(" + place + ")", m.said(place), x.said(place));
    }

    private void found() {
        for (int i = -1; i < 4; i++) {
            is("found(" + i + ")", m.found(i), x.found(i));
        }
    }

    /** A TABLE so small, and an aim so near, that there is something to look for. */
    private void aimedLook() {
        int people = 2 + below(2);
        int kinds = 3 + below(people == 2 ? 3 : 1);
        String text = tableText(people, kinds);
        feed(text);
        is("table of " + text, m.table(text), x.table());
        for (int i = 0; i < 5; i++) {
            int seed = random.nextInt();
            int more = 1 + below(2);
            is("drawn(" + more + ", " + seed + ")", m.drawn(more, seed), x.drawn(more, seed));
            int w = Math.max(0, m.talk.size() - 1 - below(4));
            int now = m.word(w, 5);
            int state = now == 1 ? 2 + below(2) : now == 4 ? 5 + below(4) : below(9);
            int n = people * kinds < 8 ? 2 + below(3) : 2;
            String call = "(" + w + ", " + state + ", " + n + ")";
            is("road" + call, m.road(Model.NONE, w, state, n), x.road(w, state, n));
            found();
            int who = below(people);
            is("without " + who + call, m.without(who, w, state, n), x.without(who, w, state, n));
            int side = 1 + below((1 << people) - 2);
            is("game " + side + call, m.game(side, w, state, n), x.game(side, w, state, n));
            int later = m.talk.size() + below(2);
            int wanted = below(9);
            call = "(" + later + ", " + wanted + ", " + n + ")";
            is("road" + call, m.road(Model.NONE, later, wanted, n), x.road(later, wanted, n));
            found();
        }
    }

    private void look() {
        int all = m.board.people.size() * m.board.kinds.size();
        int n = below(6);
        double ways = Math.pow(all, n);
        if (ways > 1500 && ways <= 300000) {
            return;
        }
        int w = below(3) == 0 ? below(8) : Math.max(0, m.talk.size() - below(7)) + below(2);
        int state = below(10);
        int who = below(m.board.people.size() + 2) - 1;
        int side = below(8) == 0 ? below(20) - 2 : 1 + below(Math.max(1, (1 << m.board.people.size()) - 2));
        String call = "(" + w + ", " + state + ", " + n + ")";
        is("road" + call, m.road(Model.NONE, w, state, n), x.road(w, state, n));
        is("without " + who + call, m.without(who, w, state, n), x.without(who, w, state, n));
        is("game " + side + call, m.game(side, w, state, n), x.game(side, w, state, n));
        found();
    }

    private void images() {
        int k = below(9) == 0 ? below(4) - 1 : below(2);
        if (below(2) == 0) {
            is("image(" + k + ")", m.image(k), x.image(k));
        } else {
            is("restore(" + k + ")", m.restore(k), x.restore(k));
        }
        compare();
    }

    private void compare() {
        int k = below(2);
        int n = below(5);
        Model.Board other = m.kept[k] == null ? m.board : (Model.Board) m.kept[k][0];
        double all = Math.max(m.board.people.size(), other.people.size())
            * Math.max(m.board.kinds.size(), other.kinds.size());
        if (Math.pow(all, n) > 3000 && Math.pow(all, n) <= 300000) {
            return;
        }
        is("unlike(" + k + ", " + n + ")", m.unlike(k, n), x.unlike(k, n));
        found();
    }

    /** The same TABLE with a single LINE changed: what is UNLIKE then lies deeper. */
    private void nearTables() {
        String text = tableText(2, 2 + below(3));
        String[] lines = text.split(";");
        feed(text);
        is("table of " + text, m.table(text), x.table());
        is("image(0)", m.image(0), x.image(0));
        StringBuilder changed = new StringBuilder();
        int dropped = below(lines.length);
        for (int i = 0; i < lines.length; i++) {
            if (i != dropped || lines[i].contains("who") || lines[i].contains("kind")) {
                changed.append(lines[i]).append(';');
            }
        }
        feed(changed.toString());
        is("table of " + changed, m.table(changed.toString()), x.table());
        is("unlike(0, 4)", m.unlike(0, 4), x.unlike(0, 4));
        found();
    }

    private void go() {
        if (run % 3 == 0) {
            nearTables();
        } else {
            aimedLook();
        }
        readTable();
        while (calls < CALLS - 80) {
            switch (below(14)) {
                case 0: readTalk(); break;
                case 1: case 2: readMinutes(); break;
                case 3: readSentence(); break;
                case 4: images(); break;
                case 5: tell(); break;
                case 6: case 7: case 8: look(); break;
                case 9: if (below(4) == 0) { readTable(); } break;
                default: speak(); break;
            }
        }
    }

    public static void main(String[] args) {
        for (int run = 0; run < RUNS; run++) {
            new ModelTest(run).go();
        }
        Due.close("ModelTest");
    }
}
