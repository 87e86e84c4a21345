import java.util.ArrayList;
import java.util.Arrays;
import java.util.HashMap;
import java.util.List;
import java.util.Map;

/** A slow second HushNet, written from the document alone: trees and lists in place of steps and bits. */
final class Model {
    static final int NONE = -1;

    // ---- The town ----
    int spots;
    final List<int[]> ways = new ArrayList<>();
    final List<int[]> agents = new ArrayList<>();
    final List<Code> given = new ArrayList<>();

    int spot() {
        return spots == 10 ? NONE : spots++;
    }

    int way(int a, int b, int length) {
        if (ways.size() == 24 || !isSpot(a) || !isSpot(b) || a == b || length < 1 || length > 9) return NONE;
        ways.add(new int[] {a, b, length});
        return ways.size() - 1;
    }

    int agent(int spot, int secrets) {
        if (agents.size() == 8 || !isSpot(spot) || secrets < 0 || secrets > 255) return NONE;
        agents.add(new int[] {spot, secrets});
        given.add(null);
        return agents.size() - 1;
    }

    boolean give(int agent, int code) {
        if (!isAgent(agent) || code < -1 || code >= codes.size()) return false;
        given.set(agent, code == -1 ? null : codes.get(code));
        return true;
    }

    boolean isSpot(int s) {
        return 0 <= s && s < spots;
    }

    boolean isAgent(int a) {
        return 0 <= a && a < agents.size();
    }

    static boolean isTick(int t) {
        return 0 <= t && t <= 95;
    }

    static boolean isSecret(int s) {
        return 0 <= s && s <= 7;
    }

    boolean isKnown(int n) {
        return 0 <= n && n <= facts.size();
    }

    boolean isSet(int set) {
        return 0 <= set && set < (1 << agents.size());
    }

    /** By as many rounds over all ways as there are spots. */
    int distance(int a, int b) {
        if (!isSpot(a) || !isSpot(b)) return NONE;
        int[] far = new int[spots];
        Arrays.fill(far, 9999);
        far[a] = 0;
        for (int i = 0; i < spots; i++) {
            for (int[] w : ways) {
                far[w[0]] = Math.min(far[w[0]], far[w[1]] + w[2]);
                far[w[1]] = Math.min(far[w[1]], far[w[0]] + w[2]);
            }
        }
        return far[b] >= 9999 ? NONE : far[b];
    }

    /** The next spot and the length of the way to it. */
    int[] nextOnWay(int from, int goal) {
        int[] best = null;
        for (int s = 0; s < spots; s++) {
            int direct = 9999;
            for (int[] w : ways) {
                if (w[0] == from && w[1] == s || w[1] == from && w[0] == s) direct = Math.min(direct, w[2]);
            }
            int rest = distance(s, goal);
            if (direct < 9999 && rest != NONE && direct + rest == distance(from, goal) && best == null) {
                best = new int[] {s, direct};
            }
        }
        return best;
    }

    // ---- The tape ----
    final List<Integer> tape = new ArrayList<>();
    int faultPlace = NONE;

    int feed(int... five) {
        if (tape.size() + 20 > 2000) return NONE;
        for (int v : five) {
            for (int shift = 24; shift >= 0; shift -= 8) tape.add((v >> shift) & 0xff);
        }
        return tape.size();
    }

    int back(int n) {
        if (n < 0 || n > tape.size()) return NONE;
        for (int i = 0; i < n; i++) tape.remove(tape.size() - 1);
        return tape.size();
    }

    // ---- Codes ----
    static final class Deed {
        String word;
        int a;
        int b;
        Code code;
        boolean not;
        String test;
        List<Deed> first = new ArrayList<>();
        List<Deed> other = new ArrayList<>();
    }

    static final class Code {
        String name;
        List<Deed> deeds = new ArrayList<>();
    }

    static final class Fault extends RuntimeException {
        final int kind;
        final int place;

        Fault(int kind, int place) {
            this.kind = kind;
            this.place = place;
        }
    }

    static final List<String> WORDS = Arrays.asList("code", "end", "go", "wait", "till", "mark", "wipe", "write", "leave",
            "take", "burn", "tell", "abort", "do", "loop", "if", "else", "meet", "for", "not", "paper", "knows", "has", "with",
            "late", "watched");
    List<Code> codes = new ArrayList<>();
    private String text;
    private int at;
    private int tokenPlace;
    private String token;
    private int tokens;
    private List<int[]> late;
    private List<Code> told;
    private int depth;

    int read() {
        StringBuilder all = new StringBuilder();
        for (int b : tape) all.append((char) b);
        tape.clear();
        text = all.toString();
        at = 0;
        tokens = 0;
        depth = 0;
        late = new ArrayList<>();
        told = new ArrayList<>();
        faultPlace = NONE;
        try {
            next();
            while (!token.equals("")) readCode();
            if (!late.isEmpty()) throw new Fault(late.get(0)[0], late.get(0)[1]);
        } catch (Fault f) {
            faultPlace = f.place;
            return f.kind;
        }
        codes = told;
        for (int i = 0; i < given.size(); i++) given.set(i, null);
        return 0;
    }

    /** The next token: a word, "name x", "int 3", ";", "" at the end, "?" for none. */
    private void next() {
        while (at < text.length() && " \t\n\r".indexOf(text.charAt(at)) >= 0) at++;
        tokenPlace = at;
        if (at == text.length()) {
            token = "";
            return;
        }
        String rest = text.substring(at);
        String letters = rest.replaceFirst("(?s)[^a-z].*", "");
        String digits = rest.replaceFirst("(?s)[^0-9].*", "");
        if (!letters.isEmpty()) {
            at += letters.length();
            token = letters.length() > 8 ? "?" : WORDS.contains(letters) ? letters : "name " + letters;
        } else if (!digits.isEmpty()) {
            at += digits.length();
            token = digits.length() > 2 ? "?" : "int " + Integer.parseInt(digits);
        } else if (rest.charAt(0) == ';') {
            at++;
            token = ";";
        } else {
            token = "?";
        }
    }

    private String eat(String... due) {
        String was = token;
        boolean fits = false;
        for (String d : due) fits |= was.equals(d) || d.endsWith(" ") && was.startsWith(d);
        if (!fits) throw new Fault(1, tokenPlace);
        tokens++;
        if (tokens > 500) throw new Fault(2, tokenPlace);
        next();
        return was;
    }

    private int eatInt(int most) {
        int place = tokenPlace;
        int value = Integer.parseInt(eat("int ").substring(4));
        if (value > most) late.add(new int[] {5, place});
        return value;
    }

    private Code codeOf(String name) {
        for (Code c : told) if (c.name.equals(name)) return c;
        return null;
    }

    private void readCode() {
        int begin = tokenPlace;
        eat("code");
        if (told.size() == 8) throw new Fault(2, begin);
        int place = tokenPlace;
        Code code = new Code();
        code.name = eat("name ").substring(5);
        if (codeOf(code.name) != null) late.add(new int[] {3, place});
        readDeeds(code.deeds);
        eat("end");
        told.add(code);
    }

    private void readDeeds(List<Deed> into) {
        while (!token.equals("end") && !token.equals("else")) into.add(readDeed());
    }

    private Deed readDeed() {
        Deed d = new Deed();
        int begin = tokenPlace;
        d.word = eat("go", "wait", "till", "mark", "wipe", "write", "leave", "take", "burn", "tell", "abort", "do", "loop", "if",
                "meet");
        if (d.word.equals("loop") || d.word.equals("if") || d.word.equals("meet")) {
            if (depth == 6) throw new Fault(2, begin);
            depth++;
            readBlock(d);
            depth--;
            return d;
        }
        if (d.word.equals("do")) {
            int place = tokenPlace;
            d.code = codeOf(eat("name ").substring(5));
            if (d.code == null) late.add(new int[] {4, place});
        } else if (!d.word.equals("abort")) {
            d.a = eatInt(most(d.word));
        }
        eat(";");
        return d;
    }

    private static int most(String word) {
        switch (word) {
            case "go":
                return 9;
            case "wait": case "till": case "late": case "loop": case "for":
                return 95;
            case "mark": case "wipe":
                return 3;
            default:
                return 7;
        }
    }

    private void readBlock(Deed d) {
        if (d.word.equals("loop")) {
            d.a = eatInt(95);
        } else if (d.word.equals("meet")) {
            d.a = eatInt(7);
            eat("for");
            d.b = eatInt(95);
        } else {
            while (token.equals("not")) {
                eat("not");
                d.not = !d.not;
            }
            d.test = eat("mark", "paper", "knows", "has", "with", "late", "watched");
            if (!d.test.equals("watched")) d.a = eatInt(most(d.test));
        }
        readDeeds(d.first);
        if (token.equals("else") && !d.word.equals("loop")) {
            eat("else");
            readDeeds(d.other);
        }
        eat("end");
    }

    // ---- A run ----
    /** What is still to be done, the first at the head: a deed, or a loop's further turns. */
    static final class Agenda {
        final Deed deed;
        final int turns;
        final int partner;
        final Agenda rest;

        Agenda(Deed deed, int turns, int partner, Agenda rest) {
            this.deed = deed;
            this.turns = turns;
            this.partner = partner;
            this.rest = rest;
        }
    }

    static Agenda ahead(List<Deed> deeds, int partner, Agenda rest) {
        Agenda all = rest;
        for (int i = deeds.size() - 1; i >= 0; i--) all = new Agenda(deeds.get(i), 0, partner, all);
        return all;
    }

    static final class Walker {
        boolean coded;
        Agenda agenda;
        int wakes;
        Deed meeting;
        int meetingPartner;
        int meetingEnds;
        boolean cameAbout;
        int spot;
        int onWayTo = NONE;
        int arrives;
        int goal = NONE;
        int ended = NONE;
        int deeds;
        final int[] knownFrom = {-1, -1, -1, -1, -1, -1, -1, -1};
        final int[] teacher = {-1, -1, -1, -1, -1, -1, -1, -1};
        final boolean[] papers = new boolean[8];
        final int[] row = new int[96];
    }

    List<Walker> walkers;
    final boolean[][] marks = new boolean[10][4];
    final int[][] lying = new int[10][8];
    int[][] met;
    List<Integer> sawn;
    int tick;
    int learned;

    int run(int n) {
        if (!isKnown(n)) return NONE;
        walkers = new ArrayList<>();
        sawn = new ArrayList<>();
        met = new int[8][8];
        learned = 0;
        for (int[] row : met) Arrays.fill(row, NONE);
        for (boolean[] row : marks) Arrays.fill(row, false);
        for (int[] row : lying) Arrays.fill(row, NONE);
        for (int i = 0; i < agents.size(); i++) {
            Walker w = new Walker();
            w.spot = agents.get(i)[0];
            for (int s = 0; s < 8; s++) if ((agents.get(i)[1] & 1 << s) != 0) w.knownFrom[s] = 0;
            w.coded = given.get(i) != null;
            if (w.coded) w.agenda = ahead(given.get(i).deeds, NONE, null);
            else w.ended = 0;
            walkers.add(w);
        }
        for (tick = 0; tick < 96; tick++) {
            for (int i = 0; i < walkers.size(); i++) {
                Walker w = walkers.get(i);
                if (w.onWayTo != NONE && w.arrives == tick) {
                    w.spot = w.onWayTo;
                    w.onWayTo = NONE;
                }
                w.row[tick] = w.onWayTo == NONE ? w.spot : NONE;
                if (w.onWayTo == NONE && isWatched(w.spot, tick, n)) sawn.add(1000 * tick + 10 * i + w.spot);
            }
            for (int i = 0; i < walkers.size(); i++) act(i, n);
        }
        return learned;
    }

    private void act(int i, int n) {
        Walker w = walkers.get(i);
        if (w.onWayTo != NONE || w.ended != NONE) return;
        if (w.goal != NONE && w.goal != w.spot) {
            walkOn(w);
            return;
        }
        if (tick < w.wakes) return;
        if (w.meeting != null) {
            if (w.cameAbout) {
                w.agenda = ahead(w.meeting.first, w.meeting.a, w.agenda);
            } else if (tick == w.meetingEnds) {
                w.agenda = ahead(w.meeting.other, w.meetingPartner, w.agenda);
            } else {
                return;
            }
            w.meeting = null;
            w.cameAbout = false;
        }
        int done = 0;
        while (true) {
            if (w.agenda == null) {
                w.ended = tick;
                return;
            }
            if (done == 40) return;
            done++;
            w.deeds++;
            Agenda now = w.agenda;
            w.agenda = now.rest;
            if (deed(i, w, now, n)) return;
            if (w.ended != NONE) return;
        }
    }

    private void walkOn(Walker w) {
        int[] next = nextOnWay(w.spot, w.goal);
        w.onWayTo = next[0];
        w.arrives = tick + next[1];
    }

    /** Does one deed; true if it takes time. */
    private boolean deed(int i, Walker w, Agenda now, int n) {
        Deed d = now.deed;
        switch (d.word) {
            case "go":
                if (d.a >= spots || d.a == w.spot || distance(w.spot, d.a) == NONE) return false;
                w.goal = d.a;
                walkOn(w);
                return true;
            case "wait":
                w.wakes = tick + d.a;
                return d.a > 0;
            case "till":
                if (d.a <= tick) return false;
                w.wakes = d.a;
                return true;
            case "abort":
                w.ended = tick;
                return false;
            case "do":
                w.agenda = ahead(d.code.deeds, now.partner, w.agenda);
                return false;
            case "loop":
                int turns = now.turns == 0 ? d.a : now.turns;
                if (turns == 0) return false;
                if (turns > 1) w.agenda = new Agenda(d, turns - 1, now.partner, w.agenda);
                w.agenda = ahead(d.first, now.partner, w.agenda);
                return false;
            case "if":
                w.agenda = ahead(test(w, d, n) != d.not ? d.first : d.other, now.partner, w.agenda);
                return false;
            case "meet":
                return meet(i, w, now);
            case "mark": case "wipe":
                marks[w.spot][d.a] = d.word.equals("mark");
                return false;
            case "write":
                if (w.knownFrom[d.a] != NONE) w.papers[d.a] = true;
                return false;
            case "leave":
                if (w.papers[d.a]) lying[w.spot][d.a] = i;
                w.papers[d.a] = false;
                return false;
            case "take":
                if (lying[w.spot][d.a] == NONE) return false;
                w.papers[d.a] = true;
                learn(w, d.a, lying[w.spot][d.a]);
                lying[w.spot][d.a] = NONE;
                return false;
            case "burn":
                w.papers[d.a] = false;
                return false;
            default:
                if (now.partner == NONE || w.knownFrom[d.a] == NONE) return false;
                Walker other = walkers.get(now.partner);
                if (other.row[tick] == w.spot) learn(other, d.a, i);
                return false;
        }
    }

    private void learn(Walker w, int secret, int from) {
        if (w.knownFrom[secret] != NONE) return;
        w.knownFrom[secret] = tick;
        w.teacher[secret] = from;
        learned++;
    }

    private boolean test(Walker w, Deed d, int n) {
        switch (d.test) {
            case "mark":
                return marks[w.spot][d.a];
            case "paper":
                return lying[w.spot][d.a] != NONE;
            case "knows":
                return w.knownFrom[d.a] != NONE;
            case "has":
                return w.papers[d.a];
            case "with":
                return d.a < walkers.size() && walkers.get(d.a).row[tick] == w.spot;
            case "late":
                return d.a <= tick;
            default:
                return isWatched(w.spot, tick, n);
        }
    }

    private boolean meet(int i, Walker w, Agenda now) {
        Deed d = now.deed;
        if (d.a != i && d.a < walkers.size()) {
            Walker other = walkers.get(d.a);
            if (other.meeting != null && !other.cameAbout && other.meeting.a == i && other.row[tick] == w.spot) {
                other.cameAbout = true;
                if (met[i][d.a] == NONE) {
                    met[i][d.a] = tick;
                    met[d.a][i] = tick;
                }
                w.agenda = ahead(d.first, d.a, w.agenda);
                return false;
            }
        }
        if (d.b == 0) {
            w.agenda = ahead(d.other, now.partner, w.agenda);
            return false;
        }
        w.meeting = d;
        w.meetingPartner = now.partner;
        w.meetingEnds = tick + d.b;
        return true;
    }

    // ---- What a run left ----
    int where(int a, int t) {
        return walkers == null || !isAgent(a) || !isTick(t) || a >= walkers.size() ? NONE : walkers.get(a).row[t];
    }

    int knows(int a, int s) {
        return walkers == null || !isAgent(a) || !isSecret(s) || a >= walkers.size() ? NONE : walkers.get(a).knownFrom[s];
    }

    int chain(int a, int s, int i) {
        if (knows(a, s) == NONE || i < 0) return NONE;
        if (i == 0) return a;
        int from = walkers.get(a).teacher[s];
        return from == NONE ? NONE : chain(from, s, i - 1);
    }

    int has(int a, int s) {
        if (walkers == null || !isSecret(s) || a < 0 || a >= walkers.size()) return NONE;
        return walkers.get(a).papers[s] ? 1 : 0;
    }

    int left(int s) {
        if (walkers == null || !isSpot(s)) return NONE;
        int all = 0;
        for (int i = 0; i < 4; i++) if (marks[s][i]) all |= 1 << i;
        for (int i = 0; i < 8; i++) if (lying[s][i] != NONE) all |= 16 << i;
        return all;
    }

    int met(int a, int b) {
        return walkers == null || !isAgent(a) || !isAgent(b) || a == b ? NONE : met[a][b];
    }

    int ended(int a) {
        return walkers == null || !isAgent(a) || a >= walkers.size() ? NONE : walkers.get(a).ended;
    }

    int deeds(int a) {
        return walkers == null || a < 0 || a >= walkers.size() ? NONE : walkers.get(a).deeds;
    }

    int saws() {
        return walkers == null ? NONE : sawn.size();
    }

    /** NONE stands for the exception. */
    int saw(int i) {
        return walkers == null || i < 0 || i >= sawn.size() ? NONE : sawn.get(i);
    }

    /** The most that fall, and the first set by which they do. */
    int[] worst(int k) {
        if (walkers == null || k < 1 || k > 3) return new int[] {NONE, NONE};
        int[] best = {NONE, NONE};
        tryTaken(Math.min(k, walkers.size()), 0, 0, best);
        return best;
    }

    /** Sets in the order in which that with the least own agent comes first. */
    private void tryTaken(int more, int from, int set, int[] best) {
        if (more == 0) {
            int falling = set;
            for (int i = 0; i < 8; i++) {
                for (int j = 0; j < 8; j++) if ((set & 1 << i) != 0 && met[i][j] != NONE) falling |= 1 << j;
            }
            if (Integer.bitCount(falling) > best[0]) {
                best[0] = Integer.bitCount(falling);
                best[1] = set;
            }
            return;
        }
        for (int i = from; i < walkers.size(); i++) tryTaken(more - 1, i + 1, set | 1 << i, best);
    }

    // ---- The book ----
    final List<int[]> facts = new ArrayList<>();

    private int fact(int... row) {
        if (facts.size() == 150) return NONE;
        facts.add(row);
        return facts.size() - 1;
    }

    int post(int w, int s, int a, int b) {
        if (w < 0 || w > 3 || !isSpot(s) || a < 0 || a >= b || b > 96) return NONE;
        for (int i = 0; i < facts.size(); i++) {
            int[] f = facts.get(i);
            if (f[0] != 0 || f[1] != w || isStruck(i, facts.size())) continue;
            for (int t = a; t < b; t++) if (f[3] <= t && t < f[4]) return NONE;
        }
        return fact(0, w, s, a, b);
    }

    int sight(int a, int s, int t) {
        return !isAgent(a) || !isSpot(s) || !isTick(t) ? NONE : fact(1, a, s, t);
    }

    int turned(int a, int t) {
        return !isAgent(a) || !isTick(t) ? NONE : fact(2, a, t);
    }

    int strike(int f) {
        return f < 0 || f >= facts.size() || facts.get(f)[0] == 3 ? NONE : fact(3, f);
    }

    private boolean isStruck(int f, int n) {
        for (int i = 0; i < n; i++) if (facts.get(i)[0] == 3 && facts.get(i)[1] == f) return true;
        return false;
    }

    int struck(int f, int n) {
        return !isKnown(n) || f < 0 || f >= n ? NONE : isStruck(f, n) ? 1 : 0;
    }

    private boolean isWatched(int s, int t, int n) {
        for (int i = 0; i < n; i++) {
            int[] f = facts.get(i);
            if (f[0] == 0 && f[2] == s && f[3] <= t && t < f[4] && !isStruck(i, n)) return true;
        }
        return false;
    }

    // ---- Rows: a stand is a spot, or a way, its end and how many ticks are left ----
    private static final int STANDS = 2600;

    private static int onWay(int way, int end, int left) {
        return 100 + way * 100 + end * 10 + left;
    }

    private List<Integer> onFrom(int stand) {
        List<Integer> on = new ArrayList<>();
        if (stand < 100) {
            on.add(stand);
            for (int i = 0; i < ways.size(); i++) {
                int[] w = ways.get(i);
                if (w[0] == stand) on.add(w[2] == 1 ? w[1] : onWay(i, w[1], w[2] - 1));
                if (w[1] == stand) on.add(w[2] == 1 ? w[0] : onWay(i, w[0], w[2] - 1));
            }
        } else {
            int left = stand % 10;
            on.add(left == 1 ? stand / 10 % 10 : stand - 1);
        }
        return on;
    }

    private boolean mayStand(int a, int t, int stand, int n) {
        boolean seen = false;
        for (int i = 0; i < n; i++) {
            int[] f = facts.get(i);
            if (f[0] != 1 || f[1] != a || f[3] != t || isStruck(i, n)) continue;
            seen = true;
            if (f[2] != stand) return false;
        }
        return seen || stand >= 100 || !isWatched(stand, t, n);
    }

    private final Map<String, List<List<Integer>>> reckoned = new HashMap<>();

    /** For each tick the stands that are in some row. */
    List<List<Integer>> stands(int a, int n) {
        String key = a + " " + n + " " + spots + " " + ways.size();
        if (!reckoned.containsKey(key)) reckoned.put(key, reckonStands(a, n));
        return reckoned.get(key);
    }

    private List<List<Integer>> reckonStands(int a, int n) {
        List<List<Integer>> forth = new ArrayList<>();
        List<Integer> now = new ArrayList<>();
        for (int s = 0; s < spots; s++) if (mayStand(a, 0, s, n)) now.add(s);
        forth.add(now);
        for (int t = 1; t < 96; t++) {
            List<Integer> then = new ArrayList<>();
            boolean[] taken = new boolean[STANDS];
            for (int stand : now) {
                for (int on : onFrom(stand)) {
                    if (!taken[on] && mayStand(a, t, on, n)) then.add(on);
                    taken[on] = true;
                }
            }
            forth.add(then);
            now = then;
        }
        for (int t = 94; t >= 0; t--) {
            boolean[] after = new boolean[STANDS];
            for (int stand : forth.get(t + 1)) after[stand] = true;
            List<Integer> kept = new ArrayList<>();
            for (int stand : forth.get(t)) {
                boolean goesOn = false;
                for (int on : onFrom(stand)) goesOn |= after[on];
                if (goesOn) kept.add(stand);
            }
            forth.set(t, kept);
        }
        return forth;
    }

    int canBe(int a, int s, int t, int n) {
        if (!isAgent(a) || !isSpot(s) || !isTick(t) || !isKnown(n)) return NONE;
        return stands(a, n).get(t).contains(s) ? 1 : 0;
    }

    int fits(int a, int n) {
        if (!isAgent(a) || !isKnown(n)) return NONE;
        return stands(a, n).get(0).isEmpty() ? 0 : 1;
    }

    // ---- A word ----
    /** For each agent the first tick in which it has it somewhere: all that is told of it, till nothing is new. */
    int[] firsts(int set, int t, boolean drops, int n) {
        List<List<List<Integer>>> can = new ArrayList<>();
        boolean[][][] has = new boolean[agents.size()][96][];
        for (int a = 0; a < agents.size(); a++) {
            can.add(stands(a, n));
            for (int u = 0; u < 96; u++) has[a][u] = new boolean[STANDS];
        }
        boolean fresh = true;
        while (fresh) {
            fresh = false;
            for (int a = 0; a < agents.size(); a++) {
                for (int u = t; u < 96; u++) {
                    for (int before : u > t ? can.get(a).get(u - 1) : new ArrayList<Integer>()) {
                        if (!has[a][u - 1][before]) continue;
                        for (int on : onFrom(before)) {
                            if (has[a][u][on] || !can.get(a).get(u).contains(on)) continue;
                            has[a][u][on] = true;
                            fresh = true;
                        }
                    }
                    for (int stand : can.get(a).get(u)) {
                        if (has[a][u][stand]) continue;
                        boolean gets = stand < 10 && (set & 1 << a) != 0;
                        if (stand < 10 && !gets) gets = isThere(has, stand, u, drops ? t : u);
                        if (gets) {
                            has[a][u][stand] = true;
                            fresh = true;
                        }
                    }
                }
            }
        }
        int[] first = new int[agents.size()];
        for (int a = 0; a < first.length; a++) {
            first[a] = NONE;
            for (int u = 95; u >= t; u--) for (int s = 0; s < spots; s++) if (has[a][u][s]) first[a] = u;
        }
        return first;
    }

    private static boolean isThere(boolean[][][] has, int spot, int tick, int from) {
        for (boolean[][] one : has) for (int u = from; u <= tick; u++) if (one[u][spot]) return true;
        return false;
    }

    int could(int set, int t, int by, boolean drops, int n) {
        if (!isSet(set) || !isTick(t) || !isTick(by) || by < t || !isKnown(n)) return NONE;
        int who = 0;
        int[] first = firsts(set, t, drops, n);
        for (int a = 0; a < first.length; a++) if (first[a] != NONE && first[a] <= by) who |= 1 << a;
        return who;
    }

    int since(int a, int set, int t, boolean drops, int n) {
        if (!isAgent(a) || !isSet(set) || !isTick(t) || !isKnown(n)) return NONE;
        return firsts(set, t, drops, n)[a];
    }

    int touched(int a, int n) {
        if (!isAgent(a) || !isKnown(n)) return NONE;
        int from = 96;
        for (int i = 0; i < n; i++) {
            int[] f = facts.get(i);
            if (f[0] == 2 && f[1] == a && !isStruck(i, n)) from = Math.min(from, f[2]);
        }
        if (from == 96) return NONE;
        int who = 0;
        List<List<Integer>> own = stands(a, n);
        for (int b = 0; b < agents.size(); b++) {
            if (b == a) continue;
            List<List<Integer>> others = stands(b, n);
            for (int t = from; t < 96; t++) {
                for (int s = 0; s < spots; s++) if (own.get(t).contains(s) && others.get(t).contains(s)) who |= 1 << b;
            }
        }
        return who;
    }

    // ---- The feeding ----
    int[] fedWords;
    int[] fedDoubts;

    int fed(int suspects, int words, int t, int by, boolean drops, int n) {
        if (!isSet(suspects) || suspects == 0 || words < 1 || words > 3) return NONE;
        if (!isTick(t) || !isTick(by) || by < t || !isKnown(n)) return NONE;
        Map<Integer, Integer> numbers = new HashMap<>();
        numbers.put(0, 0);
        for (int set = 1; set < 256; set++) {
            if ((set & ~suspects) == 0) numbers.put(set, Integer.bitCount(could(set, t, by, drops, n) & suspects));
        }
        int[] best = {99, 0};
        int[] tried = new int[8];
        Arrays.fill(tried, NONE);
        giveOn(0, suspects, words, tried, numbers, best);
        return best[0];
    }

    private void giveOn(int agent, int suspects, int words, int[] tried, Map<Integer, Integer> numbers, int[] best) {
        if (agent == 8) {
            int worst = 0;
            int[] doubts = new int[words];
            for (int w = 0; w < words; w++) {
                int set = 0;
                for (int a = 0; a < 8; a++) if (tried[a] == w) set |= 1 << a;
                doubts[w] = numbers.get(set);
                worst = Math.max(worst, doubts[w]);
            }
            if (worst < best[0]) {
                best[0] = worst;
                fedWords = tried.clone();
                fedDoubts = doubts;
            }
            return;
        }
        if ((suspects & 1 << agent) == 0) {
            giveOn(agent + 1, suspects, words, tried, numbers, best);
            return;
        }
        for (int w = 0; w < words; w++) {
            tried[agent] = w;
            giveOn(agent + 1, suspects, words, tried, numbers, best);
        }
        tried[agent] = NONE;
    }

    int word(int a) {
        return fedWords == null || !isAgent(a) ? NONE : fedWords[a];
    }

    int doubt(int w) {
        return fedDoubts == null || w < 0 || w >= fedDoubts.length ? NONE : fedDoubts[w];
    }

    int count(int what) {
        int[] all = {spots, ways.size(), agents.size(), codes.size(), facts.size(), tape.size()};
        return what < 0 || what > 5 ? NONE : all[what];
    }
}
