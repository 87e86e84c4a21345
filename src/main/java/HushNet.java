import java.util.NoSuchElementException;

/** A net of agents in a town, and the book of those who hunt it. README.md tells how to use it. */
public final class HushNet {
    public static final int NONE = -1;

    private static final int TICKS = 96;
    private static final int MOST_SPOTS = 10;
    private static final int MOST_WAYS = 24;
    private static final int LONGEST_WAY = 9;
    private static final int MOST_AGENTS = 8;
    private static final int SECRETS = 8;
    private static final int MARKS = 4;
    private static final int WATCHERS = 4;
    private static final int MOST_FACTS = 150;
    private static final int MOST_BYTES = 2000;
    private static final int BYTES_A_FEED = 20;
    private static final int MOST_CODES = 8;
    private static final int MOST_TAKEN = 3;
    private static final int MOST_FED_WORDS = 3;

    // The words of the codes' language: a word's number is its place in this row.
    private static final String WORDS =
            "abort burn code do else end for go has if knows late leave loop mark meet not paper take tell till wait watched wipe with write";
    private static final int ABORT = 0;
    private static final int BURN = 1;
    private static final int CODE = 2;
    private static final int DO = 3;
    private static final int ELSE = 4;
    private static final int END = 5;
    private static final int FOR = 6;
    private static final int GO = 7;
    private static final int HAS = 8;
    private static final int IF = 9;
    private static final int KNOWS = 10;
    private static final int LATE = 11;
    private static final int LEAVE = 12;
    private static final int LOOP = 13;
    private static final int MARK = 14;
    private static final int MEET = 15;
    private static final int NOT = 16;
    private static final int PAPER = 17;
    private static final int TAKE = 18;
    private static final int TELL = 19;
    private static final int TILL = 20;
    private static final int WAIT = 21;
    private static final int WATCHED = 22;
    private static final int WIPE = 23;
    private static final int WITH = 24;
    private static final int WRITE = 25;
    // Tokens that are no words, the text's end, and what is no token.
    private static final int NAME = 26;
    private static final int INT = 27;
    private static final int SEMICOLON = 28;
    private static final int OVER = 29;
    private static final int NO_TOKEN = 30;
    // Steps of a code that no word tells: a loop's end, a jump, the end of a meet's first deeds, a code's end.
    private static final int AGAIN = 31;
    private static final int SKIP = 32;
    private static final int PARTED = 33;
    private static final int RETURN = 34;

    // Kinds of facts.
    private static final int POST = 0;
    private static final int SIGHT = 1;
    private static final int TURNED = 2;
    private static final int STRIKE = 3;

    private final Town town;
    private final Tape tape;
    private final Program program;
    private final Parser parser;
    private final Book book;
    private final Agent[] agents;
    private int agentCount;
    private final Run latest;
    private final Rows rows;
    private final Rumour rumour;
    private final Feeding feeding;

    public HushNet() {
        Town ownTown = new Town();
        Tape ownTape = new Tape();
        Program ownProgram = new Program();
        Book ownBook = new Book();
        Agent[] ownAgents = new Agent[MOST_AGENTS];
        for (int i = 0; i < MOST_AGENTS; i++) {
            ownAgents[i] = new Agent();
        }
        Rows ownRows = new Rows(ownTown, ownBook);
        town = ownTown;
        tape = ownTape;
        program = ownProgram;
        parser = new Parser(ownTape);
        book = ownBook;
        agents = ownAgents;
        latest = new Run(ownTown, ownProgram, ownBook, ownAgents);
        rows = ownRows;
        rumour = new Rumour(ownTown, ownRows);
        feeding = new Feeding();
    }

    // ---- The tape and the codes ----

    public int feed(int a, int b, int c, int d, int e) {
        if (tape.length > MOST_BYTES - BYTES_A_FEED) {
            return NONE;
        }
        tape.add(a);
        tape.add(b);
        tape.add(c);
        tape.add(d);
        tape.add(e);
        return tape.length;
    }

    public int back(int n) {
        if (n < 0 || n > tape.length) {
            return NONE;
        }
        tape.length -= n;
        return tape.length;
    }

    public int read() {
        int fault = parser.parse();
        tape.length = 0;
        if (fault == 0) {
            program.become(parser.draft);
            for (int i = 0; i < MOST_AGENTS; i++) {
                agents[i].code = NONE;
            }
        }
        return fault;
    }

    public int place() {
        return parser.fault == 0 ? NONE : parser.faultPlace;
    }

    // ---- The town and its agents ----

    public int spot() {
        return town.addSpot();
    }

    public int way(int a, int b, int length) {
        if (!town.hasSpot(a) || !town.hasSpot(b) || a == b) {
            return NONE;
        }
        if (length < 1 || length > LONGEST_WAY) {
            return NONE;
        }
        return town.addWay(a, b, length);
    }

    public int agent(int spot, int secrets) {
        if (agentCount >= MOST_AGENTS || !town.hasSpot(spot) || secrets < 0 || secrets >= 1 << SECRETS) {
            return NONE;
        }
        Agent added = agents[agentCount];
        added.start = spot;
        added.secrets = secrets;
        return agentCount++;
    }

    public boolean give(int agent, int code) {
        if (!isAgent(agent) || code < NONE || code >= program.codes) {
            return false;
        }
        agents[agent].code = code;
        return true;
    }

    public int distance(int a, int b) {
        return town.lengthBetween(a, b);
    }

    // ---- The book ----

    public int post(int watcher, int spot, int a, int b) {
        if (watcher < 0 || watcher >= WATCHERS || !town.hasSpot(spot)) {
            return NONE;
        }
        if (a < 0 || a >= b || b > TICKS || book.isPosted(watcher, a, b)) {
            return NONE;
        }
        return book.add(POST, watcher, spot, a, b);
    }

    public int sight(int agent, int spot, int tick) {
        if (!isAgent(agent) || !town.hasSpot(spot) || !isTick(tick)) {
            return NONE;
        }
        return book.add(SIGHT, agent, spot, tick, tick + 1);
    }

    public int turned(int agent, int tick) {
        if (!isAgent(agent) || !isTick(tick)) {
            return NONE;
        }
        return book.add(TURNED, agent, NONE, tick, TICKS);
    }

    public int strike(int fact) {
        if (!book.isFactOf(fact, book.facts) || book.kind[fact] == STRIKE) {
            return NONE;
        }
        return book.add(STRIKE, fact, NONE, NONE, NONE);
    }

    public int struck(int fact, int n) {
        if (!isKnowledge(n) || !book.isFactOf(fact, n)) {
            return NONE;
        }
        book.look(n);
        return book.struck[fact] ? 1 : 0;
    }

    // ---- A run and what it left ----

    public int run(int n) {
        if (!isKnowledge(n)) {
            return NONE;
        }
        book.look(n);
        return latest.perform(agentCount);
    }

    public int where(int agent, int tick) {
        if (!hadAgent(agent) || !isTick(tick)) {
            return NONE;
        }
        return agents[agent].places[tick];
    }

    public int knows(int agent, int secret) {
        if (!hadAgent(agent) || !isSecret(secret)) {
            return NONE;
        }
        return agents[agent].knownFrom[secret];
    }

    public int chain(int agent, int secret, int i) {
        if (!hadAgent(agent) || !isSecret(secret) || i < 0) {
            return NONE;
        }
        if (agents[agent].knownFrom[secret] == NONE) {
            return NONE;
        }
        int link = agent;
        for (int k = 0; k < i && link != NONE; k++) {
            link = hadAgent(link) ? agents[link].teacher[secret] : NONE;
        }
        return link;
    }

    public int has(int agent, int secret) {
        if (!hadAgent(agent) || !isSecret(secret)) {
            return NONE;
        }
        return agents[agent].papers >> secret & 1;
    }

    public int left(int spot) {
        if (!latest.happened || !town.hasSpot(spot)) {
            return NONE;
        }
        return latest.marks[spot] | latest.papers[spot] << MARKS;
    }

    public int met(int one, int other) {
        if (!hadAgent(one) || !hadAgent(other) || one == other) {
            return NONE;
        }
        return latest.firstMet[one][other];
    }

    public int ended(int agent) {
        if (!hadAgent(agent)) {
            return NONE;
        }
        return agents[agent].endTick;
    }

    public int deeds(int agent) {
        if (!hadAgent(agent)) {
            return NONE;
        }
        return agents[agent].deedCount;
    }

    public int saws() {
        return latest.happened ? latest.sawCount : NONE;
    }

    public int saw(int i) throws NoSuchElementException {
        if (!latest.happened || i < 0 || i >= latest.sawCount || i >= latest.sawRows.length) {
            throw new NoSuchElementException();
        }
        return latest.sawRows[i];
    }

    public int falls(int k) {
        if (!latest.happened || k < 1 || k > MOST_TAKEN) {
            return NONE;
        }
        return Integer.bitCount(latest.whoFalls(worstTaken(k)));
    }

    public int fallen(int k) {
        if (!latest.happened || k < 1 || k > MOST_TAKEN) {
            return NONE;
        }
        return worstTaken(k);
    }

    // ---- What the hunters can tell ----

    public int canBe(int agent, int spot, int tick, int n) {
        if (!isAgent(agent) || !town.hasSpot(spot) || !isTick(tick) || !isKnowledge(n)) {
            return NONE;
        }
        book.look(n);
        rows.reckon(agent);
        return rows.can[agent][tick] >> spot & 1;
    }

    public int fits(int agent, int n) {
        if (!isAgent(agent) || !isKnowledge(n)) {
            return NONE;
        }
        book.look(n);
        rows.reckon(agent);
        return rows.can[agent][0] != 0 ? 1 : 0;
    }

    public int could(int set, int t, int by, boolean drops, int n) {
        if (!isSet(set) || !isTick(t) || !isTick(by) || by < t || !isKnowledge(n)) {
            return NONE;
        }
        reckonRows(n);
        rumour.spread(set, t, drops, agentCount);
        return rumour.knowersBy(by);
    }

    public int since(int agent, int set, int t, boolean drops, int n) {
        if (!isAgent(agent) || !isSet(set) || !isTick(t) || !isKnowledge(n)) {
            return NONE;
        }
        reckonRows(n);
        rumour.spread(set, t, drops, agentCount);
        return rumour.first[agent];
    }

    public int touched(int agent, int n) {
        if (!isAgent(agent) || !isKnowledge(n)) {
            return NONE;
        }
        reckonRows(n);
        int from = book.turnedFrom(agent);
        if (from == NONE) {
            return NONE;
        }
        int touchedOnes = 0;
        for (int other = 0; other < agentCount; other++) {
            if (other != agent && rows.canShare(agent, other, from)) {
                touchedOnes |= 1 << other;
            }
        }
        return touchedOnes;
    }

    public int fed(int suspects, int words, int t, int by, boolean drops, int n) {
        if (!isSet(suspects) || suspects == 0 || words < 1 || words > MOST_FED_WORDS) {
            return NONE;
        }
        if (!isTick(t) || !isTick(by) || by < t || !isKnowledge(n)) {
            return NONE;
        }
        reckonRows(n);
        // Whoever could know a word of a whole set could know it of one of the set alone, so that one spread each does.
        for (int i = 0; i < agentCount && i < MOST_AGENTS; i++) {
            rumour.spread(1 << i, t, drops, agentCount);
            feeding.reach[i] = rumour.knowersBy(by) & suspects;
        }
        return feeding.choose(suspects, words);
    }

    public int word(int agent) {
        return isAgent(agent) ? feeding.bestWord[agent] : NONE;
    }

    public int doubt(int word) {
        if (word < 0 || word >= feeding.bestWords || word >= MOST_FED_WORDS) {
            return NONE;
        }
        return feeding.bestDoubt[word];
    }

    public int count(int what) {
        switch (what) {
            case 0:
                return town.spots;
            case 1:
                return town.ways;
            case 2:
                return agentCount;
            case 3:
                return program.codes;
            case 4:
                return book.facts;
            case 5:
                return tape.length;
            default:
                return NONE;
        }
    }

    // ---- What the calls above ask ----

    private boolean isAgent(int agent) {
        return agent >= 0 && agent < agentCount && agent < MOST_AGENTS;
    }

    /** Whether the latest run had an agent: none if nothing was run, none that came later. */
    private boolean hadAgent(int agent) {
        return isAgent(agent) && latest.had(agent);
    }

    private boolean isSet(int set) {
        return set >= 0 && set < 1 << agentCount;
    }

    private boolean isKnowledge(int n) {
        return n >= 0 && n <= book.facts;
    }

    private static boolean isTick(int tick) {
        return tick >= 0 && tick < TICKS;
    }

    private static boolean isSecret(int secret) {
        return secret >= 0 && secret < SECRETS;
    }

    private void reckonRows(int n) {
        book.look(n);
        for (int i = 0; i < agentCount; i++) {
            rows.reckon(i);
        }
    }

    /** The first of the sets of k agents of the latest run (of all, if it had fewer) by which most fall. */
    private int worstTaken(int k) {
        int taken = Math.min(k, latest.agentsHad);
        int worst = 0;
        int most = -1;
        for (int set = 0; set < 1 << latest.agentsHad; set++) {
            if (Integer.bitCount(set) == taken) {
                int falling = Integer.bitCount(latest.whoFalls(set));
                if (falling > most || falling == most && isAhead(set, worst)) {
                    worst = set;
                    most = falling;
                }
            }
        }
        return worst;
    }

    /** Whether the least agent that is not in both sets is in the first one. */
    private static boolean isAhead(int set, int other) {
        int apart = set ^ other;
        return (apart & -apart & set) != 0;
    }

    /** Spots, ways, and the lengths of the nearest ways. */
    private static final class Town {
        final int[] wayFrom = new int[MOST_WAYS];
        final int[] wayTo = new int[MOST_WAYS];
        final int[] wayLength = new int[MOST_WAYS];
        final int[][] nearest = new int[MOST_SPOTS][MOST_SPOTS];
        int spots;
        int ways;

        Town() {
            for (int a = 0; a < MOST_SPOTS; a++) {
                for (int b = 0; b < MOST_SPOTS; b++) {
                    nearest[a][b] = a == b ? 0 : NONE;
                }
            }
        }

        boolean hasSpot(int s) {
            return s >= 0 && s < spots && s < MOST_SPOTS;
        }

        int addSpot() {
            return spots >= MOST_SPOTS ? NONE : spots++;
        }

        /** Two spots of the town, and a length of a way, must be given. */
        int addWay(int a, int b, int length) {
            if (ways >= MOST_WAYS) {
                return NONE;
            }
            wayFrom[ways] = a;
            wayTo[ways] = b;
            wayLength[ways] = length;
            for (int from = 0; from < spots; from++) {
                for (int to = 0; to < spots; to++) {
                    shorten(from, to, sum(nearest[from][a], length, nearest[b][to]));
                    shorten(from, to, sum(nearest[from][b], length, nearest[a][to]));
                }
            }
            return ways++;
        }

        private void shorten(int from, int to, int length) {
            if (length != NONE && (nearest[from][to] == NONE || length < nearest[from][to])) {
                nearest[from][to] = length;
            }
        }

        private static int sum(int before, int length, int after) {
            return before == NONE || after == NONE ? NONE : before + length + after;
        }

        int lengthBetween(int a, int b) {
            boolean areSpots = a >= 0 && a < spots && b >= 0 && b < spots;
            return areSpots ? nearest[a][b] : NONE;
        }

        /** The next spot on the nearest way to another spot; NONE if there is none. */
        int nextSpot(int from, int goal) {
            int next = NONE;
            for (int w = 0; w < ways; w++) {
                int end = otherEnd(w, from);
                int rest = lengthBetween(end, goal);
                if (rest != NONE && wayLength[w] + rest == lengthBetween(from, goal) && (next == NONE || end < next)) {
                    next = end;
                }
            }
            return next;
        }

        private int otherEnd(int w, int spot) {
            if (wayFrom[w] == spot) {
                return wayTo[w];
            }
            return wayTo[w] == spot ? wayFrom[w] : NONE;
        }

        /** The ends of a way, of which the other end is among these spots (bits). */
        int across(int w, int mask) {
            return (mask >> wayFrom[w] & 1) << wayTo[w] | (mask >> wayTo[w] & 1) << wayFrom[w];
        }

        int allSpots() {
            return (1 << spots) - 1;
        }
    }

    /** The bytes that were fed, and the tokens that stand in them. */
    private static final class Tape {
        // One more than may be told, so that the first one too many is seen; behind them the text's end.
        static final int ROOM_FOR_TOKENS = 502;
        private static final int LONGEST_NAME = 8;
        private static final int LONGEST_INT = 2;

        int length;
        final int[] kinds = new int[ROOM_FOR_TOKENS];
        final int[] places = new int[ROOM_FOR_TOKENS];
        final int[] numbers = new int[ROOM_FOR_TOKENS];
        final long[] names = new long[ROOM_FOR_TOKENS];
        private final int[] bytes = new int[MOST_BYTES];
        private int next;

        void add(int four) {
            for (int shift = 24; shift >= 0 && length < MOST_BYTES; shift -= 8) {
                bytes[length] = four >>> shift & 255;
                length++;
            }
        }

        /** Finds the tokens up to the text's end, what is no token, or one more than may be told. */
        void scan() {
            next = 0;
            int last = INT;
            for (int i = 0; i < ROOM_FOR_TOKENS && last != OVER && last != NO_TOKEN; i++) {
                last = scanToken(i);
            }
        }

        private int scanToken(int i) {
            if (i < 0 || i >= ROOM_FOR_TOKENS) {
                return OVER;
            }
            while (next < length && isBlank(byteAt(next))) {
                next++;
            }
            places[i] = next;
            numbers[i] = 0;
            names[i] = 0;
            int b = byteAt(next);
            if (isLetter(b)) {
                names[i] = scanLetters();
                kinds[i] = next - places[i] > LONGEST_NAME ? NO_TOKEN : wordOf(names[i]);
            } else if (isDigit(b)) {
                numbers[i] = scanDigits();
                kinds[i] = next - places[i] > LONGEST_INT ? NO_TOKEN : INT;
            } else if (b == ';') {
                kinds[i] = SEMICOLON;
                next++;
            } else {
                kinds[i] = b == NONE ? OVER : NO_TOKEN;
            }
            return kinds[i];
        }

        private int byteAt(int i) {
            return i >= 0 && i < length && i < MOST_BYTES ? bytes[i] : NONE;
        }

        private long scanLetters() {
            long name = 0;
            while (next < length && isLetter(byteAt(next))) {
                name = withLetter(name, byteAt(next));
                next++;
            }
            return name;
        }

        private int scanDigits() {
            int number = 0;
            while (next < length && isDigit(byteAt(next))) {
                number = number * 10 + byteAt(next) - '0';
                next++;
            }
            return number;
        }

        private static int wordOf(long name) {
            long word = 0;
            int words = 0;
            for (int i = 0; i < WORDS.length(); i++) {
                char c = WORDS.charAt(i);
                if (c != ' ') {
                    word = withLetter(word, c);
                } else if (word == name) {
                    return words;
                } else {
                    word = 0;
                    words++;
                }
            }
            return word == name ? words : NAME;
        }

        /** A name as a number: five bits a letter, so that no two names of eight letters are alike. */
        private static long withLetter(long name, int letter) {
            return name << 5 | letter - 'a' + 1;
        }

        private static boolean isBlank(int b) {
            return b == 9 || b == 10 || b == 13 || b == 32;
        }

        private static boolean isLetter(int b) {
            return b >= 'a' && b <= 'z';
        }

        private static boolean isDigit(int b) {
            return b >= '0' && b <= '9';
        }
    }

    /** Codes as steps, one behind the other, with jumps between them. */
    private static final class Program {
        // No token makes more than one step, and there are 500 tokens at most.
        static final int MOST_STEPS = 512;
        final int[] kind = new int[MOST_STEPS];
        final int[] number = new int[MOST_STEPS];
        // A meet's for, an if's test.
        final int[] second = new int[MOST_STEPS];
        // False if an if's test is turned round by not.
        final boolean[] asTold = new boolean[MOST_STEPS];
        final int[] target = new int[MOST_STEPS];
        final long[] codeName = new long[MOST_CODES];
        final int[] codeBegin = new int[MOST_CODES];
        int steps;
        int codes;

        void clear() {
            steps = 0;
            codes = 0;
        }

        void become(Program other) {
            for (int i = 0; i < MOST_STEPS; i++) {
                kind[i] = other.kind[i];
                number[i] = other.number[i];
                second[i] = other.second[i];
                asTold[i] = other.asTold[i];
                target[i] = other.target[i];
            }
            for (int i = 0; i < MOST_CODES; i++) {
                codeName[i] = other.codeName[i];
                codeBegin[i] = other.codeBegin[i];
            }
            steps = other.steps;
            codes = other.codes;
        }

        /** Puts a step behind the others: its number. */
        int add(int stepKind, int stepNumber, int stepSecond) {
            if (steps >= MOST_STEPS) {
                return NONE;
            }
            kind[steps] = stepKind;
            number[steps] = stepNumber;
            second[steps] = stepSecond;
            asTold[steps] = true;
            target[steps] = NONE;
            return steps++;
        }

        void addIf(int test, int stepNumber, boolean stepAsTold) {
            int step = add(IF, stepNumber, test);
            if (isStep(step)) {
                asTold[step] = stepAsTold;
            }
        }

        boolean isStep(int step) {
            return step >= 0 && step < steps && step < MOST_STEPS;
        }

        void aim(int step, int to) {
            if (isStep(step)) {
                target[step] = to;
            }
        }

        void beginCode(long name) {
            if (codes < MOST_CODES) {
                codeName[codes] = name;
                codeBegin[codes] = steps;
            }
        }

        void endCode() {
            if (codes < MOST_CODES) {
                add(RETURN, 0, 0);
                codes++;
            }
        }

        /** The code of that name among those told wholly. */
        int codeNamed(long name) {
            for (int i = 0; i < codes && i < MOST_CODES; i++) {
                if (codeName[i] == name) {
                    return i;
                }
            }
            return NONE;
        }

        int firstStep(int code) {
            return code >= 0 && code < codes && code < MOST_CODES ? codeBegin[code] : NONE;
        }
    }

    /** Goes through the tape token by token and writes a draft of its codes, or finds its fault. */
    private static final class Parser {
        static final int SYNTAX = 1;
        static final int ROOM = 2;
        static final int TWICE = 3;
        static final int NOT_TOLD = 4;
        static final int WRONG = 5;
        static final int MOST_TOKENS = 500;
        static final int MOST_BLOCKS = 6;

        final Program draft = new Program();
        int fault;
        int faultPlace;
        private final Tape tape;
        private final int[] blockKind = new int[MOST_BLOCKS];
        private final int[] blockStep = new int[MOST_BLOCKS];
        private int blocks;
        private boolean inCode;
        private int laterFault;
        private int laterPlace;
        // How many tokens were taken, and the one behind them.
        private int taken;
        private int kind;
        private int begin;
        private int number;
        private long name;

        Parser(Tape itsTape) {
            tape = itsTape;
        }

        /** The number of the tape's fault; 0 if it has none: then its codes are the draft. */
        int parse() {
            draft.clear();
            tape.scan();
            blocks = 0;
            inCode = false;
            fault = 0;
            laterFault = 0;
            comeTo(0);
            boolean more = true;
            for (int i = 0; i <= MOST_TOKENS && more; i++) {
                more = inCode ? deedOrEnd() : codeOrOver();
            }
            if (fault == 0 && laterFault != 0) {
                fault = laterFault;
                faultPlace = laterPlace;
            }
            return fault;
        }

        private void comeTo(int token) {
            taken = token;
            if (token >= 0 && token < Tape.ROOM_FOR_TOKENS) {
                kind = tape.kinds[token];
                begin = tape.places[token];
                number = tape.numbers[token];
                name = tape.names[token];
            }
        }

        private boolean fail(int itsFault) {
            fault = itsFault;
            faultPlace = begin;
            return false;
        }

        /** Keeps a fault that counts only if the whole text has none of syntax and room. */
        private void failLater(int itsFault) {
            if (laterFault == 0) {
                laterFault = itsFault;
                laterPlace = begin;
            }
        }

        private boolean accept(int due) {
            if (kind != due) {
                return fail(SYNTAX);
            }
            if (taken >= MOST_TOKENS) {
                return fail(ROOM);
            }
            comeTo(taken + 1);
            return true;
        }

        private boolean acceptNumber(int most) {
            if (kind == INT && number > most) {
                failLater(WRONG);
            }
            return accept(INT);
        }

        private boolean codeOrOver() {
            if (kind == OVER) {
                return false;
            }
            if (kind == CODE && draft.codes >= MOST_CODES) {
                return fail(ROOM);
            }
            if (!accept(CODE)) {
                return false;
            }
            if (kind == NAME && draft.codeNamed(name) != NONE) {
                failLater(TWICE);
            }
            draft.beginCode(name);
            inCode = true;
            return accept(NAME);
        }

        private boolean deedOrEnd() {
            switch (kind) {
                case GO:
                    return plainDeed(MOST_SPOTS - 1);
                case WAIT:
                case TILL:
                    return plainDeed(TICKS - 1);
                case MARK:
                case WIPE:
                    return plainDeed(MARKS - 1);
                case WRITE:
                case LEAVE:
                case TAKE:
                case BURN:
                case TELL:
                    return plainDeed(SECRETS - 1);
                case ABORT:
                    draft.add(ABORT, 0, 0);
                    return accept(ABORT) && accept(SEMICOLON);
                case DO:
                    return doDeed();
                case LOOP:
                    return loopHead();
                case IF:
                    return ifHead();
                case MEET:
                    return meetHead();
                case ELSE:
                    return elseOfBlock();
                case END:
                    return endOfBlock();
                default:
                    return fail(SYNTAX);
            }
        }

        private boolean plainDeed(int most) {
            int deed = kind;
            if (!accept(deed)) {
                return false;
            }
            draft.add(deed, number, 0);
            return acceptNumber(most) && accept(SEMICOLON);
        }

        private boolean doDeed() {
            if (!accept(DO)) {
                return false;
            }
            int code = draft.codeNamed(name);
            if (kind == NAME && code == NONE) {
                failLater(NOT_TOLD);
            }
            draft.add(DO, code, 0);
            return accept(NAME) && accept(SEMICOLON);
        }

        /** Opens a loop, an if, a meet, whose first step is the next one. */
        private boolean open(int block) {
            if (blocks < 0 || blocks >= MOST_BLOCKS) {
                return fail(ROOM);
            }
            blockKind[blocks] = block;
            blockStep[blocks] = draft.steps;
            blocks++;
            return accept(block);
        }

        private boolean loopHead() {
            if (!open(LOOP)) {
                return false;
            }
            draft.add(LOOP, number, 0);
            return acceptNumber(TICKS - 1);
        }

        private boolean meetHead() {
            if (!open(MEET)) {
                return false;
            }
            int other = number;
            if (!acceptNumber(MOST_AGENTS - 1) || !accept(FOR)) {
                return false;
            }
            draft.add(MEET, other, number);
            return acceptNumber(TICKS - 1);
        }

        private boolean ifHead() {
            if (!open(IF)) {
                return false;
            }
            boolean asTold = true;
            for (int i = 0; i <= MOST_TOKENS && kind == NOT; i++) {
                if (!accept(NOT)) {
                    return false;
                }
                asTold = !asTold;
            }
            int test = kind;
            int most = mostOfTest(test);
            if (most == NONE) {
                return fail(SYNTAX);
            }
            if (!accept(test)) {
                return false;
            }
            draft.addIf(test, number, asTold);
            return test == WATCHED || acceptNumber(most);
        }

        /** The highest INT behind a test's word (0 if none follows it); NONE: it is no test's word. */
        private static int mostOfTest(int word) {
            switch (word) {
                case MARK:
                    return MARKS - 1;
                case PAPER:
                case KNOWS:
                case HAS:
                    return SECRETS - 1;
                case WITH:
                    return MOST_AGENTS - 1;
                case LATE:
                    return TICKS - 1;
                case WATCHED:
                    return 0;
                default:
                    return NONE;
            }
        }

        private boolean elseOfBlock() {
            int top = blocks - 1;
            if (top < 0 || top >= MOST_BLOCKS || blockKind[top] != IF && blockKind[top] != MEET) {
                return fail(SYNTAX);
            }
            int jump = draft.add(blockKind[top] == MEET ? PARTED : SKIP, 0, 0);
            draft.aim(blockStep[top], draft.steps);
            blockKind[top] = ELSE;
            blockStep[top] = jump;
            return accept(ELSE);
        }

        private boolean endOfBlock() {
            if (blocks <= 0 || blocks > MOST_BLOCKS) {
                draft.endCode();
                inCode = false;
                return accept(END);
            }
            blocks--;
            int block = blockKind[blocks];
            int step = blockStep[blocks];
            if (block == LOOP) {
                draft.aim(draft.add(AGAIN, 0, 0), step + 1);
            } else if (block == MEET) {
                int parted = draft.add(PARTED, 0, 0);
                draft.aim(parted, draft.steps);
            }
            draft.aim(step, draft.steps);
            return accept(END);
        }
    }

    /** What stands open in an agent's code: loops, met ones, codes to go back to. */
    private static final class Frames {
        // Eight codes can do one another, each with six blocks within one another.
        static final int MOST_FRAMES = 64;
        private final int[] kinds = new int[MOST_FRAMES];
        private final int[] values = new int[MOST_FRAMES];
        private int depth;

        void clear() {
            depth = 0;
        }

        boolean isEmpty() {
            return depth <= 0;
        }

        void push(int kind, int value) {
            if (depth >= 0 && depth < MOST_FRAMES) {
                kinds[depth] = kind;
                values[depth] = value;
                depth++;
            }
        }

        /** Takes the top frame off: its value. */
        int pop() {
            if (depth <= 0 || depth > MOST_FRAMES) {
                return NONE;
            }
            depth--;
            return values[depth];
        }

        int top() {
            return depth > 0 && depth <= MOST_FRAMES ? values[depth - 1] : NONE;
        }

        /** The value of the innermost frame of that kind. */
        int innermost(int kind) {
            for (int i = Math.min(depth, MOST_FRAMES) - 1; i >= 0; i--) {
                if (kinds[i] == kind) {
                    return values[i];
                }
            }
            return NONE;
        }
    }

    /** An agent, where it is in its code, and what became of it in the latest run. */
    private static final class Agent {
        int start;
        int secrets;
        int code = NONE;

        final Frames frames = new Frames();
        int step;
        int resume;
        int waitsFor;
        int waitsUntil;
        int metOne;
        int spot;
        int heading;
        int arrival;
        int goal;

        final int[] places = new int[TICKS];
        final int[] knownFrom = new int[SECRETS];
        final int[] teacher = new int[SECRETS];
        int papers;
        int deedCount;
        int endTick;

        /** Ready for a run; one that a run has not is at no spot in it. */
        void begin() {
            frames.clear();
            step = NONE;
            resume = 0;
            waitsFor = NONE;
            metOne = NONE;
            spot = start;
            heading = NONE;
            goal = NONE;
            papers = 0;
            deedCount = 0;
            endTick = NONE;
            for (int t = 0; t < TICKS; t++) {
                places[t] = NONE;
            }
            for (int s = 0; s < SECRETS; s++) {
                knownFrom[s] = NONE;
                teacher[s] = NONE;
            }
        }

        /** Takes its first secrets and the first step of its code (NONE: it has none). */
        void enter(int firstStep) {
            for (int s = 0; s < SECRETS; s++) {
                if ((secrets >> s & 1) != 0) {
                    knownFrom[s] = 0;
                }
            }
            step = firstStep;
            if (firstStep == NONE) {
                endTick = 0;
            }
        }

        /** Comes to the end of its way, if that is in this tick, and notes where it is. */
        void stand(int tick) {
            if (heading != NONE && tick >= arrival) {
                spot = heading;
                heading = NONE;
            }
            if (tick >= 0 && tick < TICKS) {
                places[tick] = heading == NONE ? spot : NONE;
            }
        }

        boolean knowsSecret(int secret) {
            return secret >= 0 && secret < SECRETS && knownFrom[secret] != NONE;
        }

        boolean hasPaper(int secret) {
            return (papers >> secret & 1) != 0;
        }
    }

    /** The facts in their order, and what is known of them at a time. */
    private static final class Book {
        final int[] kind = new int[MOST_FACTS];
        // A watcher, an agent, or the fact that is struck.
        final int[] who = new int[MOST_FACTS];
        final int[] spot = new int[MOST_FACTS];
        final int[] from = new int[MOST_FACTS];
        final int[] to = new int[MOST_FACTS];
        int facts;

        // As looked at last: how many facts are known, which are struck, the spots watched in each tick (bits).
        int known;
        final boolean[] struck = new boolean[MOST_FACTS];
        final int[] watched = new int[TICKS];

        int add(int factKind, int factWho, int factSpot, int factFrom, int factTo) {
            if (facts >= MOST_FACTS) {
                return NONE;
            }
            kind[facts] = factKind;
            who[facts] = factWho;
            spot[facts] = factSpot;
            from[facts] = factFrom;
            to[facts] = factTo;
            return facts++;
        }

        boolean isFactOf(int fact, int n) {
            return fact >= 0 && fact < n && fact < facts && fact < MOST_FACTS;
        }

        /** Looks at the first n facts. */
        void look(int n) {
            known = Math.min(n, facts);
            for (int i = 0; i < MOST_FACTS; i++) {
                struck[i] = false;
            }
            for (int i = 0; i < known; i++) {
                if (kind[i] == STRIKE && isFactOf(who[i], known)) {
                    struck[who[i]] = true;
                }
            }
            for (int t = 0; t < TICKS; t++) {
                watched[t] = 0;
            }
            for (int i = 0; i < known; i++) {
                if (holds(i, POST)) {
                    watch(i);
                }
            }
        }

        private void watch(int fact) {
            for (int t = Math.max(from[fact], 0); t < to[fact] && t < TICKS; t++) {
                watched[t] |= 1 << spot[fact];
            }
        }

        /** Whether a known fact is of that kind and not struck. */
        boolean holds(int fact, int factKind) {
            return isFactOf(fact, known) && kind[fact] == factKind && !struck[fact];
        }

        /** Whether a watcher has a post, not struck, with a tick of a .. b - 1. */
        boolean isPosted(int watcher, int a, int b) {
            look(facts);
            for (int i = 0; i < facts; i++) {
                if (holds(i, POST) && who[i] == watcher && from[i] < b && a < to[i]) {
                    return true;
                }
            }
            return false;
        }

        boolean isWatched(int tick, int place) {
            return tick >= 0 && tick < TICKS && (watched[tick] >> place & 1) != 0;
        }

        /** The least tick from which an agent is known to be turned; NONE if it is not. */
        int turnedFrom(int agent) {
            int least = NONE;
            for (int i = 0; i < known; i++) {
                if (holds(i, TURNED) && who[i] == agent && (least == NONE || from[i] < least)) {
                    least = from[i];
                }
            }
            return least;
        }
    }

    /** The latest run, tick by tick, and what it left behind. */
    private static final class Run {
        static final int DEEDS_A_TICK = 40;
        // Ends of blocks and codes that stand behind one another are fewer than all the steps of a program.
        static final int MOST_ENDS = 1000;

        boolean happened;
        int agentsHad;
        final int[] marks = new int[MOST_SPOTS];
        final int[] papers = new int[MOST_SPOTS];
        final int[][] firstMet = new int[MOST_AGENTS][MOST_AGENTS];
        final int[] sawRows = new int[TICKS * MOST_AGENTS];
        int sawCount;

        private final Town town;
        private final Program program;
        private final Book book;
        private final Agent[] agents;
        private final int[][] leaver = new int[MOST_SPOTS][SECRETS];
        private int tick;
        private int learned;

        Run(Town itsTown, Program itsProgram, Book itsBook, Agent[] itsAgents) {
            town = itsTown;
            program = itsProgram;
            book = itsBook;
            agents = itsAgents;
        }

        /** A run by the posts that the book was looked at for: how often a secret was learned. */
        int perform(int agentCount) {
            int count = Math.min(agentCount, Math.min(MOST_AGENTS, agents.length));
            happened = true;
            agentsHad = count;
            clear();
            for (int i = 0; i < count; i++) {
                agents[i].enter(program.firstStep(agents[i].code));
            }
            for (int t = 0; t < TICKS; t++) {
                tick = t;
                for (int i = 0; i < count; i++) {
                    agents[i].stand(t);
                    see(i);
                }
                for (int i = 0; i < count; i++) {
                    turn(i, agents[i]);
                }
            }
            return learned;
        }

        private void clear() {
            sawCount = 0;
            learned = 0;
            for (int s = 0; s < MOST_SPOTS; s++) {
                marks[s] = 0;
                papers[s] = 0;
            }
            for (int i = 0; i < MOST_AGENTS && i < agents.length; i++) {
                agents[i].begin();
                for (int j = 0; j < MOST_AGENTS; j++) {
                    firstMet[i][j] = NONE;
                }
            }
        }

        private void see(int self) {
            int spot = placeOf(self);
            if (spot != NONE && book.isWatched(tick, spot) && sawCount < sawRows.length) {
                sawRows[sawCount] = 1000 * tick + 10 * self + spot;
                sawCount++;
            }
        }

        private boolean isAgent(int i) {
            return i >= 0 && i < MOST_AGENTS && i < agents.length;
        }

        /** The spot at which an agent is in this tick; NONE for one that the run has not. */
        private int placeOf(int i) {
            return isAgent(i) && tick >= 0 && tick < TICKS ? agents[i].places[tick] : NONE;
        }

        private void turn(int self, Agent a) {
            if (a.heading != NONE) {
                return;
            }
            if (a.goal != NONE && a.goal != a.spot) {
                setOut(a);
                return;
            }
            a.goal = NONE;
            if (a.endTick != NONE || tick < a.resume || !isFree(a)) {
                return;
            }
            // The code's end is looked for behind the last deed, too, hence ahead of the bound.
            for (int done = 0; !isOver(a) && done < DEEDS_A_TICK; done++) {
                a.deedCount++;
                if (takesTime(self, a)) {
                    return;
                }
            }
        }

        private void setOut(Agent a) {
            int next = town.nextSpot(a.spot, a.goal);
            if (next == NONE) {
                a.goal = NONE;
                return;
            }
            a.heading = next;
            a.arrival = tick + town.lengthBetween(a.spot, next);
        }

        /** Whether an agent waits in no meet, or its meet came about or is given up in this tick. */
        private boolean isFree(Agent a) {
            if (a.metOne != NONE) {
                beginFirstDeeds(a, a.metOne);
                a.metOne = NONE;
            } else if (a.waitsFor != NONE) {
                if (tick < a.waitsUntil) {
                    return false;
                }
                a.waitsFor = NONE;
                a.step = targetOf(a.step);
            }
            return true;
        }

        private static void beginFirstDeeds(Agent a, int other) {
            a.frames.push(MEET, other);
            a.step++;
        }

        private int targetOf(int step) {
            return program.isStep(step) ? program.target[step] : NONE;
        }

        /** Goes past ends of blocks and codes, which are no deeds: whether the agent's code is done. */
        private boolean isOver(Agent a) {
            for (int i = 0; i < MOST_ENDS && a.endTick == NONE; i++) {
                if (!passesEnd(a)) {
                    return false;
                }
            }
            return true;
        }

        private boolean passesEnd(Agent a) {
            int kind = program.isStep(a.step) ? program.kind[a.step] : NONE;
            switch (kind) {
                case AGAIN:
                    if (a.frames.top() > 0) {
                        return false;
                    }
                    a.frames.pop();
                    a.step++;
                    return true;
                case PARTED:
                    a.frames.pop();
                    a.step = targetOf(a.step);
                    return true;
                case SKIP:
                    a.step = targetOf(a.step);
                    return true;
                case RETURN:
                    if (a.frames.isEmpty()) {
                        a.endTick = tick;
                    } else {
                        a.step = a.frames.pop();
                    }
                    return true;
                case NONE:
                    a.endTick = tick;
                    return true;
                default:
                    return false;
            }
        }

        /** Does the deed at which an agent is: whether it goes on in a later tick only. */
        private boolean takesTime(int self, Agent a) {
            if (!program.isStep(a.step)) {
                return false;
            }
            int step = a.step;
            int number = program.number[step];
            switch (program.kind[step]) {
                case GO:
                    a.step++;
                    return goTo(a, number);
                case WAIT:
                    a.step++;
                    a.resume = tick + number;
                    return number > 0;
                case TILL:
                    a.step++;
                    a.resume = Math.max(tick, number);
                    return number > tick;
                case MEET:
                    return waitsToMeet(self, a, number, program.second[step]);
                case ABORT:
                    a.endTick = tick;
                    return false;
                case DO:
                    a.frames.push(DO, step + 1);
                    a.step = program.firstStep(number);
                    return false;
                case LOOP:
                    beginLoop(a, number);
                    return false;
                case AGAIN:
                    a.frames.push(LOOP, a.frames.pop() - 1);
                    a.step = program.target[step];
                    return false;
                case IF:
                    boolean holds = testHolds(a, program.second[step], number);
                    a.step = holds == program.asTold[step] ? step + 1 : program.target[step];
                    return false;
                default:
                    a.step++;
                    handle(self, a, program.kind[step], number);
                    return false;
            }
        }

        private boolean goTo(Agent a, int goal) {
            if (goal == a.spot || town.lengthBetween(a.spot, goal) == NONE) {
                return false;
            }
            a.goal = goal;
            setOut(a);
            return a.heading != NONE;
        }

        private void beginLoop(Agent a, int turns) {
            if (turns <= 0) {
                a.step = targetOf(a.step);
            } else {
                a.frames.push(LOOP, turns - 1);
                a.step++;
            }
        }

        private boolean waitsToMeet(int self, Agent a, int other, int span) {
            if (other != self && isAgent(other) && agents[other].waitsFor == self && placeOf(other) == a.spot) {
                agents[other].waitsFor = NONE;
                agents[other].metOne = self;
                noteMeeting(self, other);
                beginFirstDeeds(a, other);
                return false;
            }
            if (span <= 0) {
                a.step = targetOf(a.step);
                return false;
            }
            a.waitsFor = other;
            a.waitsUntil = tick + span;
            return true;
        }

        private void noteMeeting(int one, int other) {
            if (isAgent(one) && isAgent(other) && firstMet[one][other] == NONE) {
                firstMet[one][other] = tick;
                firstMet[other][one] = tick;
            }
        }

        private boolean testHolds(Agent a, int test, int number) {
            switch (test) {
                case MARK:
                    return town.hasSpot(a.spot) && (marks[a.spot] >> number & 1) != 0;
                case PAPER:
                    return paperLies(a.spot, number);
                case KNOWS:
                    return a.knowsSecret(number);
                case HAS:
                    return a.hasPaper(number);
                case WITH:
                    return placeOf(number) == a.spot;
                case WATCHED:
                    return book.isWatched(tick, a.spot);
                default:
                    return tick >= number;
            }
        }

        private boolean paperLies(int spot, int secret) {
            return town.hasSpot(spot) && (papers[spot] >> secret & 1) != 0;
        }

        /** Marks, papers and tales. */
        private void handle(int self, Agent a, int kind, int number) {
            if (!town.hasSpot(a.spot)) {
                return;
            }
            int bit = 1 << number;
            switch (kind) {
                case MARK:
                    marks[a.spot] |= bit;
                    break;
                case WIPE:
                    marks[a.spot] &= ~bit;
                    break;
                case WRITE:
                    a.papers |= a.knowsSecret(number) ? bit : 0;
                    break;
                case LEAVE:
                    leavePaper(self, a, number);
                    break;
                case TAKE:
                    takePaper(a, number);
                    break;
                case BURN:
                    a.papers &= ~bit;
                    break;
                default:
                    tellSecret(self, a, number);
                    break;
            }
        }

        private void leavePaper(int self, Agent a, int secret) {
            if (a.hasPaper(secret) && secret >= 0 && secret < SECRETS && town.hasSpot(a.spot)) {
                a.papers &= ~(1 << secret);
                papers[a.spot] |= 1 << secret;
                leaver[a.spot][secret] = self;
            }
        }

        private void takePaper(Agent a, int secret) {
            if (paperLies(a.spot, secret) && secret >= 0 && secret < SECRETS) {
                papers[a.spot] &= ~(1 << secret);
                a.papers |= 1 << secret;
                learn(a, secret, leaver[a.spot][secret]);
            }
        }

        private void tellSecret(int self, Agent a, int secret) {
            int other = a.frames.innermost(MEET);
            if (isAgent(other) && a.knowsSecret(secret) && placeOf(other) == a.spot) {
                learn(agents[other], secret, self);
            }
        }

        private void learn(Agent a, int secret, int from) {
            if (secret >= 0 && secret < SECRETS && a.knownFrom[secret] == NONE) {
                a.knownFrom[secret] = tick;
                a.teacher[secret] = from;
                learned++;
            }
        }

        /** Whether this run had an agent. */
        boolean had(int agent) {
            return agent >= 0 && agent < agentsHad;
        }

        /** Who falls if a set is taken (bits): these, and all whom one of these met. */
        int whoFalls(int taken) {
            int falling = taken;
            for (int i = 0; i < agentsHad && i < MOST_AGENTS; i++) {
                for (int j = 0; j < agentsHad && j < MOST_AGENTS; j++) {
                    if ((taken >> i & 1) != 0 && firstMet[i][j] != NONE) {
                        falling |= 1 << j;
                    }
                }
            }
            return falling;
        }
    }

    /** The rows of places that fit the book: at which spots (bits) each agent can be in each tick. */
    private static final class Rows {
        private static final int NO_SIGHT = -1;
        private static final int NEVER = 1000;

        final int[][] can = new int[MOST_AGENTS][TICKS];
        private final int[][] nextSight = new int[MOST_AGENTS][TICKS];
        private final Town town;
        private final Book book;
        private final int[] seenAt = new int[TICKS];
        private final int[] allowed = new int[TICKS];
        private final int[] ahead = new int[TICKS];
        private final int[] behind = new int[TICKS];

        Rows(Town itsTown, Book itsBook) {
            town = itsTown;
            book = itsBook;
        }

        /** Reckons an agent's rows by what the book was looked at for. */
        void reckon(int agent) {
            if (agent < 0 || agent >= MOST_AGENTS) {
                return;
            }
            noteSights(agent);
            int next = NEVER;
            for (int t = TICKS - 1; t >= 0; t--) {
                nextSight[agent][t] = next;
                if (seenAt[t] != NO_SIGHT) {
                    next = t;
                    allowed[t] = seenAt[t];
                } else {
                    allowed[t] = town.allSpots() & ~book.watched[t];
                }
            }
            goForth(agent);
            goBack(agent);
            for (int t = 0; t < TICKS; t++) {
                can[agent][t] = ahead[t] & behind[t];
            }
        }

        private void noteSights(int agent) {
            for (int t = 0; t < TICKS; t++) {
                seenAt[t] = NO_SIGHT;
            }
            for (int i = 0; i < book.known; i++) {
                if (book.holds(i, SIGHT) && book.who[i] == agent && isTick(book.from[i])) {
                    seenAt[book.from[i]] &= 1 << book.spot[i];
                }
            }
        }

        /** The tick in which one is at the end of a way that it begins; NEVER if it is to be seen ahead of that. */
        int arrival(int agent, int t, int w) {
            int end = t + town.wayLength[w];
            return end <= nextSight[agent][t] ? end : NEVER;
        }

        /** Where a row from tick 0 on can come to. */
        private void goForth(int agent) {
            for (int t = 0; t < TICKS; t++) {
                ahead[t] = t == 0 ? allowed[0] : 0;
            }
            for (int t = 0; t < TICKS; t++) {
                if (t + 1 < TICKS) {
                    ahead[t + 1] |= ahead[t] & allowed[t + 1];
                }
                for (int w = 0; w < town.ways; w++) {
                    int end = arrival(agent, t, w);
                    if (end < TICKS) {
                        ahead[end] |= town.across(w, ahead[t]) & allowed[end];
                    }
                }
            }
        }

        /** Where a row can go on from, up to the last tick. */
        private void goBack(int agent) {
            for (int t = TICKS - 1; t >= 0; t--) {
                int on = t + 1 < TICKS ? behind[t + 1] : town.allSpots();
                for (int w = 0; w < town.ways; w++) {
                    int end = arrival(agent, t, w);
                    if (end < TICKS) {
                        on |= town.across(w, behind[end]);
                    } else if (end != NEVER) {
                        on |= town.across(w, town.allSpots());
                    }
                }
                behind[t] = on & allowed[t];
            }
        }

        /** Whether two agents can be at one spot in one tick, from a tick on. */
        boolean canShare(int one, int other, int from) {
            if (one < 0 || one >= MOST_AGENTS || other < 0 || other >= MOST_AGENTS) {
                return false;
            }
            for (int t = Math.max(from, 0); t < TICKS; t++) {
                if ((can[one][t] & can[other][t]) != 0) {
                    return true;
                }
            }
            return false;
        }
    }

    /** How a word could go round among agents that can be at the same spots. */
    private static final class Rumour {
        final int[] first = new int[MOST_AGENTS];
        private final Town town;
        private final Rows rows;
        private final int[][] hasIt = new int[MOST_AGENTS][TICKS];

        Rumour(Town itsTown, Rows itsRows) {
            town = itsTown;
            rows = itsRows;
        }

        /** Spreads a word that the agents of a set have from a tick on; the rows of all must be reckoned. */
        void spread(int set, int from, boolean drops, int agentCount) {
            int count = Math.min(agentCount, MOST_AGENTS);
            for (int i = 0; i < MOST_AGENTS; i++) {
                first[i] = NONE;
                for (int t = 0; t < TICKS; t++) {
                    hasIt[i][t] = (set >> i & 1) != 0 && t >= from ? rows.can[i][t] : 0;
                }
            }
            int dropped = 0;
            for (int t = Math.max(from, 0); t < TICKS; t++) {
                int heard = drops ? dropped : 0;
                for (int i = 0; i < count; i++) {
                    heard |= hasIt[i][t];
                }
                dropped = heard;
                for (int i = 0; i < count; i++) {
                    hasIt[i][t] |= heard & rows.can[i][t];
                    carryOn(i, t);
                }
            }
        }

        /** What an agent has in a tick it has wherever it can go from there. */
        private void carryOn(int agent, int t) {
            int here = hasIt[agent][t];
            if (here == 0) {
                return;
            }
            if (first[agent] == NONE) {
                first[agent] = t;
            }
            if (t + 1 < TICKS) {
                hasIt[agent][t + 1] |= here & rows.can[agent][t + 1];
            }
            for (int w = 0; w < town.ways; w++) {
                int end = rows.arrival(agent, t, w);
                if (end < TICKS) {
                    hasIt[agent][end] |= town.across(w, here) & rows.can[agent][end];
                }
            }
        }

        /** Who has it somewhere up to a tick (bits). */
        int knowersBy(int tick) {
            int knowers = 0;
            for (int i = 0; i < MOST_AGENTS; i++) {
                if (first[i] != NONE && first[i] <= tick) {
                    knowers |= 1 << i;
                }
            }
            return knowers;
        }
    }

    /** Which words to give to whom, so that the worst doubt is least. */
    private static final class Feeding {
        // Three words for each of eight suspects: 6,561 ways to give them.
        static final int MOST_TRIES = 10000;
        // Of each agent: the suspects that could know a word that it alone was given.
        final int[] reach = new int[MOST_AGENTS];
        final int[] bestWord = new int[MOST_AGENTS];
        final int[] bestDoubt = new int[MOST_FED_WORDS];
        int bestWords;
        private final int[] tried = new int[MOST_AGENTS];
        private final int[] knowers = new int[MOST_FED_WORDS];

        Feeding() {
            for (int i = 0; i < MOST_AGENTS; i++) {
                bestWord[i] = NONE;
            }
        }

        /** Tries all ways to give words in their order and keeps the first of the best: its worst doubt. */
        int choose(int suspects, int words) {
            bestWords = words;
            for (int i = 0; i < MOST_AGENTS; i++) {
                tried[i] = (suspects >> i & 1) != 0 ? 0 : NONE;
            }
            int least = NONE;
            boolean more = true;
            for (int i = 0; i < MOST_TRIES && more; i++) {
                int worst = worstDoubt();
                if (least == NONE || worst < least) {
                    least = worst;
                    keep();
                }
                more = nextTry(words);
            }
            return least;
        }

        private int worstDoubt() {
            for (int w = 0; w < MOST_FED_WORDS; w++) {
                knowers[w] = 0;
            }
            for (int i = 0; i < MOST_AGENTS; i++) {
                int w = tried[i];
                if (w >= 0 && w < MOST_FED_WORDS) {
                    knowers[w] |= reach[i];
                }
            }
            int worst = 0;
            for (int w = 0; w < MOST_FED_WORDS; w++) {
                worst = Math.max(worst, Integer.bitCount(knowers[w]));
            }
            return worst;
        }

        private void keep() {
            for (int i = 0; i < MOST_AGENTS; i++) {
                bestWord[i] = tried[i];
            }
            for (int w = 0; w < MOST_FED_WORDS; w++) {
                bestDoubt[w] = Integer.bitCount(knowers[w]);
            }
        }

        /** Counts on, the last suspect's word first; false behind the last way to give words. */
        private boolean nextTry(int words) {
            for (int i = MOST_AGENTS - 1; i >= 0; i--) {
                if (tried[i] != NONE) {
                    tried[i]++;
                    if (tried[i] < words) {
                        return true;
                    }
                    tried[i] = 0;
                }
            }
            return false;
        }
    }
}
