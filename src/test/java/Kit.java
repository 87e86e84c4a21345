import java.util.NoSuchElementException;

/** What the written tests need: they extend it. */
class Kit {
    static final int MIN = Integer.MIN_VALUE;
    static final int MAX = Integer.MAX_VALUE;
    /** What stands for saw's exception. */
    static final long THROWN = -7;

    private static int wrong;
    private static int checks;
    private static String about = "";

    /** The sentence of the document that the next answers are due by. */
    static void says(String sentence) {
        about = sentence;
    }

    static void due(String what, long got, long want) {
        checks++;
        if (got != want) {
            wrong++;
            System.out.println(about + ": " + what + " answered " + got + ", due is " + want);
        }
    }

    static void due(String what, boolean got, boolean want) {
        due(what, got ? 1 : 0, want ? 1 : 0);
    }

    static void finish(String test) {
        System.out.println(test + ": " + checks + " answers, " + wrong + " wrong");
        if (wrong != 0) System.exit(1);
    }

    // ---- Texts ----
    /** Feeds a text, padded with blanks, and takes the padding back. */
    static void feed(HushNet x, String text) {
        int pad = (20 - text.length() % 20) % 20;
        String all = text + times(" ", pad);
        for (int i = 0; i < all.length(); i += 20) {
            int[] v = new int[5];
            for (int k = 0; k < 20; k++) v[k / 4] = v[k / 4] << 8 | all.charAt(i + k) & 255;
            x.feed(v[0], v[1], v[2], v[3], v[4]);
        }
        x.back(pad);
    }

    static int read(HushNet x, String text) {
        feed(x, text);
        return x.read();
    }

    static void faulty(String text, int kind, int place) {
        HushNet x = new HushNet();
        due("read() of " + shown(text), read(x, text), kind);
        due("place() of " + shown(text), x.place(), place);
    }

    /** A long text without its middle. */
    private static String shown(String text) {
        int n = text.length();
        return n < 160 ? "'" + text + "'" : "'" + text.substring(0, 60) + " .. " + (n - 140) + " bytes more .. " + text.substring(n - 80) + "'";
    }

    static void sound(String text) {
        faulty(text, 0, HushNet.NONE);
    }

    static String times(String part, int n) {
        StringBuilder all = new StringBuilder();
        for (int i = 0; i < n; i++) all.append(part);
        return all.toString();
    }

    // ---- Towns and runs ----
    /** Spots in a row, ways of one length between neighbours. */
    static HushNet line(int spots, int length) {
        HushNet x = new HushNet();
        for (int i = 0; i < spots; i++) x.spot();
        for (int i = 0; i + 1 < spots; i++) x.way(i, i + 1, length);
        return x;
    }

    /** Agent i at spot places[i] with secrets[i] and the i-th code of the text; run by no fact. */
    static HushNet play(HushNet x, int[] places, int[] secrets, String text) {
        for (int i = 0; i < places.length; i++) x.agent(places[i], secrets[i]);
        due("read() of '" + text + "'", read(x, text), 0);
        for (int i = 0; i < places.length; i++) due("give", x.give(i, i), true);
        x.run(0);
        return x;
    }

    /** One agent that knows secret 0 at the first of two spots, with these deeds. */
    static HushNet alone(String deeds) {
        return play(line(2, 1), new int[] {0}, new int[] {1}, "code a " + deeds + " end");
    }

    /** As many agents as there are texts of deeds at one spot, the first of which knows all secrets. */
    static HushNet together(String... deeds) {
        int[] places = new int[deeds.length];
        int[] secrets = new int[deeds.length];
        secrets[0] = 255;
        return play(line(2, 1), places, secrets, codes(deeds));
    }

    /** Codes a, b, .. with these deeds. */
    static String codes(String... deeds) {
        StringBuilder text = new StringBuilder();
        for (int i = 0; i < deeds.length; i++) text.append("code ").append((char) ('a' + i)).append(' ').append(deeds[i]).append(" end ");
        return text.toString();
    }

    /** So many agents at one spot, of which these pairs meet, the first in tick 0, the next in tick 2, and so on. */
    static HushNet met(int agents, int[]... pairs) {
        String[] deeds = new String[agents];
        for (int a = 0; a < agents; a++) deeds[a] = "";
        for (int i = 0; i < pairs.length; i++) {
            int one = pairs[i][0], other = pairs[i][1];
            deeds[one] += "till " + 2 * i + "; meet " + other + " for 1 end ";
            deeds[other] += "till " + 2 * i + "; meet " + one + " for 1 end ";
        }
        HushNet x = together(deeds);
        for (int[] pair : pairs) due("met", x.met(pair[0], pair[1]) != HushNet.NONE, true);
        return x;
    }

    static long sawOf(HushNet x, int i) {
        try {
            return x.saw(i);
        } catch (NoSuchElementException e) {
            return THROWN;
        }
    }
}
