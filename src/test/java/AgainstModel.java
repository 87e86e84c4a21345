import java.util.NoSuchElementException;

/** Long runs of calls, drawn from a seed, on a HushNet and on the slow model: every answer must be the same. */
public final class AgainstModel {
    private static long seed;
    private static int wrong;
    private static long checks;
    private static HushNet x;
    private static Model m;
    private static int calls;
    private static StringBuilder log;

    private static int pick(int n) {
        seed = seed * 6364136223846793005L + 1442695040888963407L;
        return (int) ((seed >>> 33) % n);
    }

    /** Mostly 0 .. n - 1, now and then just outside. */
    private static int near(int n) {
        int r = pick(30);
        if (r == 0) return -1;
        if (r == 1) return n;
        return n <= 0 ? 0 : pick(n);
    }

    private static void same(String call, long got, long due) {
        calls++;
        checks++;
        log.append(call).append(" = ").append(due).append('\n');
        if (got != due) {
            wrong++;
            if (wrong < 4) System.out.println(log);
            System.out.println(call + " answered " + got + ", the model " + due);
        }
    }

    public static void main(String[] args) {
        int rounds = args.length > 0 ? Integer.parseInt(args[0]) : 1200;
        int begin = args.length > 1 ? Integer.parseInt(args[1]) : 0;
        for (int i = begin; i < begin + rounds && wrong < 20; i++) {
            seed = i * 7919L + 17;
            pick(2);
            x = new HushNet();
            m = new Model();
            calls = 0;
            log = new StringBuilder("round " + i + "\n");
            if (i % 3 == 0) texts();
            else if (i % 3 == 1) runs();
            else book();
            if (wrong == 0) {
                x = new HushNet();
                m = new Model();
                calls = 0;
                log = new StringBuilder("sprouts of round " + i + "\n");
                sprouts();
            }
        }
        System.out.println("AgainstModel: " + checks + " answers, " + wrong + " wrong");
        if (wrong != 0) System.exit(1);
    }

    // ---- Drawing a town ----
    private static void town(int spots, int ways, int agents, int longest) {
        for (int i = 0; i < spots; i++) same("spot()", x.spot(), m.spot());
        for (int i = 0; i < ways; i++) {
            int a = pick(spots), b = pick(spots), l = 1 + pick(longest);
            same("way(" + a + "," + b + "," + l + ")", x.way(a, b, l), m.way(a, b, l));
        }
        for (int i = 0; i < agents; i++) {
            int s = near(spots), k = pick(4) == 0 ? 0 : near(256);
            same("agent(" + s + "," + k + ")", x.agent(s, k), m.agent(s, k));
        }
    }

    // ---- Drawing texts ----
    private static StringBuilder text;
    private static int codesTold;
    private static int spotsUsed;
    private static int agentsUsed;

    private static void word(String w) {
        if (text.length() > 0) text.append(pick(20) == 0 ? "\n" : " ");
        text.append(w);
    }

    private static void drawText(int codes, int deeds) {
        text = new StringBuilder();
        for (codesTold = 0; codesTold < codes; codesTold++) {
            word("code");
            word("" + (char) ('a' + codesTold));
            drawDeeds(deeds, 0);
            word("end");
        }
    }

    private static void drawDeeds(int most, int depth) {
        int n = pick(most + 1);
        for (int i = 0; i < n && text.length() < 1500; i++) drawDeed(depth);
    }

    private static final String[] PLAIN = {"go", "go", "go", "wait", "till", "mark", "wipe", "write", "leave", "take", "burn",
            "tell", "tell"};

    private static void drawDeed(int depth) {
        int r = pick(20);
        if (r >= 12 && depth < 4) {
            drawBlock(depth, r);
        } else if (r == 11 && codesTold > 0) {
            word("do");
            word("" + (char) ('a' + pick(codesTold)));
            text.append(';');
        } else if (r == 10 && pick(4) == 0) {
            word("abort;");
        } else {
            String w = PLAIN[pick(PLAIN.length)];
            word(w);
            switch (w) {
                case "go":
                    word(pick(30) == 0 ? "9" : "" + pick(spotsUsed));
                    break;
                case "wait":
                    word("" + pick(6));
                    break;
                case "till":
                    word("" + pick(pick(4) == 0 ? 96 : 30));
                    break;
                case "mark": case "wipe":
                    word("" + pick(3));
                    break;
                default:
                    word("" + pick(3));
                    break;
            }
            text.append(" ;");
        }
    }

    private static void drawBlock(int depth, int r) {
        if (r < 14) {
            word("loop");
            word("" + (pick(5) == 0 ? pick(45) : pick(5)));
            drawDeeds(3, depth + 1);
        } else if (r < 17) {
            word("if");
            while (pick(4) == 0) word("not");
            String[] tests = {"mark", "paper", "knows", "has", "with", "late", "watched"};
            String t = tests[pick(7)];
            word(t);
            if (t.equals("late")) word("" + pick(40));
            else if (t.equals("with")) word("" + pick(agentsUsed));
            else if (!t.equals("watched")) word("" + pick(3));
            drawDeeds(3, depth + 1);
            if (pick(2) == 0) {
                word("else");
                drawDeeds(3, depth + 1);
            }
        } else {
            word("meet");
            word("" + pick(agentsUsed));
            word("for");
            word("" + pick(pick(3) == 0 ? 3 : 30));
            drawDeeds(3, depth + 1);
            if (pick(2) == 0) {
                word("else");
                drawDeeds(2, depth + 1);
            }
        }
        word("end");
    }

    /** Feeds the text, padded, takes the padding back, and reads. */
    private static void feedText() {
        String t = text.toString();
        int pad = (20 - t.length() % 20) % 20;
        StringBuilder all = new StringBuilder(t);
        for (int i = 0; i < pad; i++) all.append('x');
        for (int i = 0; i < all.length(); i += 20) {
            int[] v = new int[5];
            for (int k = 0; k < 20; k++) v[k / 4] = v[k / 4] << 8 | all.charAt(i + k) & 255;
            same("feed", x.feed(v[0], v[1], v[2], v[3], v[4]), m.feed(v));
        }
        same("back(" + pad + ")", x.back(pad), m.back(pad));
        same("count(5)", x.count(5), m.count(5));
        same("read() of " + t, x.read(), m.read());
        same("place()", x.place(), m.faultPlace);
        same("count(3)", x.count(3), m.count(3));
        same("count(5)", x.count(5), m.count(5));
    }

    private static final String[] BITS = {"code", "end", "go", "wait", "till", "mark", "wipe", "write", "leave", "take", "burn",
            "tell", "abort", "do", "loop", "if", "else", "meet", "for", "not", "paper", "knows", "has", "with", "late", "watched",
            ";", "a", "b", "0", "3", "4", "7", "8", "9", "10", "95", "96", "99", "007", "abcdefgh", "abcdefghi", "#", ".", "A",
            "" + (char) 200, "" + (char) 0, "\t", "\r\n"};

    private static void texts() {
        town(3, 2, 2, 3);
        spotsUsed = 10;
        agentsUsed = 8;
        for (int i = 0; i < 12 && calls < 380; i++) {
            drawText(pick(pick(5) == 0 ? 11 : 4), 4);
            int spoil = pick(4);
            for (int k = 0; k < spoil; k++) spoilText();
            if (text.length() > 1980) text.setLength(1980);
            feedText();
            same("give(0,1)", x.give(0, 1) ? 1 : 0, m.give(0, 1) ? 1 : 0);
        }
    }

    private static void spoilText() {
        int at = pick(text.length() + 1);
        switch (pick(4)) {
            case 0:
                text.insert(at, BITS[pick(BITS.length)]);
                break;
            case 1:
                text.insert(at, " " + BITS[pick(BITS.length)] + " ");
                break;
            case 2:
                text.delete(at, Math.min(text.length(), at + 1 + pick(4)));
                break;
            default:
                text.setLength(at);
                break;
        }
    }

    // ---- Runs ----
    private static void runs() {
        spotsUsed = 1 + pick(4);
        agentsUsed = 1 + pick(5);
        town(spotsUsed, spotsUsed * 2, 0, 3);
        for (int i = 0; i < agentsUsed; i++) {
            int s = pick(spotsUsed), k = pick(8);
            same("agent(" + s + "," + k + ")", x.agent(s, k), m.agent(s, k));
        }
        if (pick(3) == 0) drawPost();
        for (int i = 0; i < 4 && calls < 350; i++) {
            drawText(1 + pick(8), 7);
            feedText();
            for (int a = 0; a < agentsUsed; a++) {
                int c = near(m.codes.size());
                same("give(" + a + "," + c + ")", x.give(a, c) ? 1 : 0, m.give(a, c) ? 1 : 0);
            }
            if (pick(2) == 0) drawPost();
            if (pick(4) == 0) drawStrike();
            int n = near(m.facts.size() + 1);
            same("run(" + n + ")", x.run(n), m.run(n));
            askRun(30);
        }
        growth();
    }

    /** Agents and spots come behind the latest run, and another run among them. */
    private static void growth() {
        for (int i = 0; i < 6 && calls < 440; i++) {
            int s = near(m.spots), k = near(256);
            if (pick(3) > 0) same("agent(" + s + "," + k + ")", x.agent(s, k), m.agent(s, k));
            if (pick(3) == 0) same("spot()", x.spot(), m.spot());
            if (pick(4) == 0) same("run(0)", x.run(0), m.run(0));
            askRun(6);
        }
    }

    /** Runs ahead of all else. */
    private static void sprouts() {
        for (int i = pick(3); i > 0; i--) same("spot()", x.spot(), m.spot());
        if (pick(2) == 0) same("agent(0,1)", x.agent(0, 1), m.agent(0, 1));
        askRun(4);
        same("run(0)", x.run(0), m.run(0));
        askRun(4);
        growth();
    }

    private static void askRun(int times) {
        int agents = m.agents.size();
        for (int i = 0; i < times; i++) {
            int a = near(agents), s = near(8), t = near(96), k = near(4);
            switch (pick(13)) {
                case 0: case 1: case 2:
                    same("where(" + a + "," + t + ")", x.where(a, t), m.where(a, t));
                    break;
                case 3:
                    s = near(3);
                    same("knows(" + a + "," + s + ")", x.knows(a, s), m.knows(a, s));
                    break;
                case 4:
                    s = near(3);
                    same("chain(" + a + "," + s + "," + k + ")", x.chain(a, s, k), m.chain(a, s, k));
                    break;
                case 5:
                    same("has(" + a + "," + s + ")", x.has(a, s), m.has(a, s));
                    break;
                case 6:
                    s = near(m.spots);
                    same("left(" + s + ")", x.left(s), m.left(s));
                    break;
                case 7:
                    int b = near(agents);
                    same("met(" + a + "," + b + ")", x.met(a, b), m.met(a, b));
                    break;
                case 8:
                    same("ended(" + a + ")", x.ended(a), m.ended(a));
                    break;
                case 9:
                    same("deeds(" + a + ")", x.deeds(a), m.deeds(a));
                    break;
                case 10:
                    same("saws()", x.saws(), m.saws());
                    int j = near(Math.max(1, m.saws()));
                    same("saw(" + j + ")", sawOf(j), m.saw(j));
                    break;
                case 11:
                    same("falls(" + k + ")", x.falls(k), m.worst(k)[0]);
                    break;
                default:
                    same("fallen(" + k + ")", x.fallen(k), m.worst(k)[1]);
                    break;
            }
        }
    }

    private static int sawOf(int i) {
        try {
            return x.saw(i);
        } catch (NoSuchElementException e) {
            return -1;
        }
    }

    // ---- The book ----
    private static void drawPost() {
        int w = near(4), s = near(m.spots), a = near(96), b = pick(5) == 0 ? a : a + pick(pick(3) == 0 ? 60 : 12);
        same("post(" + w + "," + s + "," + a + "," + b + ")", x.post(w, s, a, b), m.post(w, s, a, b));
    }

    private static void drawSight() {
        int a = near(m.agents.size()), s = near(m.spots), t = near(96);
        same("sight(" + a + "," + s + "," + t + ")", x.sight(a, s, t), m.sight(a, s, t));
    }

    private static void drawStrike() {
        int f = near(m.facts.size());
        same("strike(" + f + ")", x.strike(f), m.strike(f));
    }

    private static void book() {
        boolean full = pick(12) == 0;
        int spots = full ? 10 : 1 + pick(5), agents = full ? 8 : 1 + pick(5);
        if (full) {
            town(10, 0, 0, 1);
            while (m.ways.size() < 24) drawWay();
            while (m.agents.size() < 8) same("agent(0,0)", x.agent(0, 0), m.agent(0, 0));
        } else {
            town(spots, spots + pick(3), agents, pick(3) == 0 ? 9 : 4);
        }
        if (pick(3) == 0) drawRow();
        for (int i = 0; i < (full ? 2 : 5); i++) {
            for (int k = pick(12); k >= 0; k--) drawPost();
            for (int k = pick(4); k >= 0; k--) drawSight();
            if (pick(3) == 0) drawStrike();
            int a = near(agents), t = near(96);
            same("turned(" + a + "," + t + ")", x.turned(a, t), m.turned(a, t));
            for (int k = 0; k < 12; k++) askBook();
        }
        same("count(4)", x.count(4), m.count(4));
    }

    private static void drawWay() {
        int a = pick(10), b = pick(10), l = 1 + pick(9);
        same("way(" + a + "," + b + "," + l + ")", x.way(a, b, l), m.way(a, b, l));
    }

    /** Sights along a row that an agent may have gone, so that little is left of where it can be. */
    private static void drawRow() {
        for (int a = 0; a < m.agents.size(); a++) {
            int spot = pick(m.spots), tick = pick(40);
            for (int k = 0; k < 14 && tick < 96; k++) {
                same("sight(" + a + "," + spot + "," + tick + ")", x.sight(a, spot, tick), m.sight(a, spot, tick));
                tick++;
                for (int[] w : m.ways) {
                    if (w[0] == spot && pick(4) == 0) {
                        spot = w[1];
                        tick += w[2] - 1;
                        break;
                    }
                }
            }
        }
    }

    private static void askBook() {
        int agents = m.agents.size();
        int n = pick(2) == 0 ? m.facts.size() : near(m.facts.size() + 1);
        int a = near(agents), s = near(m.spots), t = near(96), set = pick(3) == 0 ? near(1 << agents) : 1 << Math.max(0, near(agents));
        int by = pick(4) == 0 ? near(96) : Math.min(95, t + pick(20));
        boolean drops = pick(2) == 0;
        String tail = "," + drops + "," + n + ")";
        switch (pick(9)) {
            case 0: case 1:
                same("canBe(" + a + "," + s + "," + t + "," + n + ")", x.canBe(a, s, t, n), m.canBe(a, s, t, n));
                break;
            case 2:
                same("fits(" + a + "," + n + ")", x.fits(a, n), m.fits(a, n));
                break;
            case 3: case 4:
                same("could(" + set + "," + t + "," + by + tail, x.could(set, t, by, drops, n), m.could(set, t, by, drops, n));
                break;
            case 5:
                same("since(" + a + "," + set + "," + t + tail, x.since(a, set, t, drops, n), m.since(a, set, t, drops, n));
                break;
            case 6:
                same("touched(" + a + "," + n + ")", x.touched(a, n), m.touched(a, n));
                break;
            case 7:
                int f = near(m.facts.size());
                same("struck(" + f + "," + n + ")", x.struck(f, n), m.struck(f, n));
                break;
            default:
                int suspects = agents == 8 ? 1 << pick(8) | 1 << pick(8) | 1 << pick(8) : near(1 << agents), words = near(4);
                same("fed(" + suspects + "," + words + "," + t + "," + by + tail, x.fed(suspects, words, t, by, drops, n),
                        m.fed(suspects, words, t, by, drops, n));
                for (int i = -1; i <= agents; i++) same("word(" + i + ")", x.word(i), m.word(i));
                for (int i = -1; i <= 3; i++) same("doubt(" + i + ")", x.doubt(i), m.doubt(i));
                break;
        }
    }
}
