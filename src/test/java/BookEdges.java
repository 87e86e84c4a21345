/** The sentences of part IV and of the promises about the book that name an edge, each with a test of its own. */
public final class BookEdges extends Kit {
    private static final int[] NO_TICKS = {-1, 96, 97, MIN, MAX};
    private static final int[] NO_SPOTS_OF_TWO = {-1, 2, 10, 32, MIN, MAX};
    private static final int[] NO_AGENTS_OF_TWO = {-1, 2, 8, MIN, MAX};
    private static final int[] NO_N_OF_THREE = {-1, 4, 150, MIN, MAX};
    private static final int[] NO_SETS_OF_TWO = {-1, 4, 5, 256, MIN, MIN + 1, MAX};

    public static void main(String[] args) {
        postNumbers();
        postOfNoWatcher();
        postAtNoSpot();
        postFromNoTick();
        postOfNoTicks();
        postToNoTick();
        postsOfOneWatcherApart();
        postsOfOtherWatchers();
        postOverAStruckOne();
        sightOfNoSuch();
        turnedOfNoSuch();
        strikeOfNoFact();
        strikeOfAStrike();
        strikeTwice();
        factsFull();
        refusedFactsChangeNothing();
        factsFromZero();
        struckByAKnownStrike();
        struckNone();
        canBeAtAnySpotFirst();
        canBeAfterAWay();
        canBeByTheLastWay();
        canBeOnAWayAtTheEnd();
        canBeJustThere();
        canBeAtNoPost();
        canBeAtAPostInASight();
        canBePostTicks();
        canBeKnownByN();
        canBeNowhere();
        canBeNone();
        fitsOrNot();
        fitsNone();
        wordFromItsTick();
        wordInTheSameTick();
        wordGoesOnALongRow();
        wordDropped();
        couldUpToThatTick();
        couldOfTheEmptySet();
        couldOfAllSets();
        couldNone();
        sinceToTheLastTick();
        sinceNone();
        touchedFromThatTick();
        touchedLeastTick();
        touchedNotItself();
        touchedNone();
        fedOneAtLeast();
        fedWords();
        fedByTick();
        fedOthersAmongSuspects();
        fedFirstOfTheBest();
        fedWhomNobodyCanBe();
        fedNone();
        refusedFedChangesNothing();
        wordNone();
        doubtNone();
        finish("BookEdges");
    }

    private static HushNet apart(int spots, int agents) {
        HushNet x = new HushNet();
        for (int i = 0; i < spots; i++) x.spot();
        for (int i = 0; i < agents; i++) x.agent(0, 0);
        return x;
    }

    /** Agents between whose spots there is no way: agent i is at spots[i] all day, by facts 0, 1, .. */
    private static HushNet pinned(int... spots) {
        HushNet x = apart(10, spots.length);
        for (int i = 0; i < spots.length; i++) x.sight(i, spots[i], 50);
        return x;
    }

    /** Two spots, a way of 1 between, two agents. */
    private static HushNet two() {
        HushNet x = line(2, 1);
        x.agent(0, 0);
        x.agent(0, 0);
        return x;
    }

    /** Likewise with three facts. */
    private static HushNet twoWithFacts() {
        HushNet x = two();
        x.sight(0, 0, 10);
        x.turned(0, 20);
        x.turned(1, 20);
        return x;
    }

    // ---- Facts ----
    private static void postNumbers() {
        says("10: A POST: its FACT's number");
        HushNet x = two();
        due("post", x.post(0, 0, 0, 1), 0);
        due("post", x.post(3, 1, 95, 96), 1);
        due("post", x.post(1, 1, 0, 96), 2);
        due("count", x.count(4), 3);
    }

    private static void postOfNoWatcher() {
        says("10: NONE, and nothing happens: no such WATCHER");
        HushNet x = two();
        for (int w : new int[] {-1, 4, 8, MIN, MAX}) due("post of watcher " + w, x.post(w, 0, 0, 1), -1);
        due("count", x.count(4), 0);
        for (int w = 0; w < 4; w++) due("post of watcher " + w, x.post(w, 0, 0, 1), w);
    }

    private static void postAtNoSpot() {
        says("10: NONE, and nothing happens: no such SPOT");
        HushNet x = two();
        for (int s : NO_SPOTS_OF_TWO) due("post at " + s, x.post(0, s, 0, 1), -1);
        due("count", x.count(4), 0);
        due("post at 1", x.post(0, 1, 0, 1), 0);
    }

    private static void postFromNoTick() {
        says("10: NONE, and nothing happens: a not 0 .. b - 1 (below 0)");
        HushNet x = two();
        for (int a : new int[] {-1, -96, MIN}) due("post from " + a, x.post(0, 0, a, 96), -1);
        due("post", x.post(0, 0, MIN, MAX), -1);
        due("post", x.post(0, 0, MIN, MIN), -1);
        due("count", x.count(4), 0);
        due("post from 0", x.post(0, 0, 0, 96), 0);
    }

    private static void postOfNoTicks() {
        says("10: NONE, and nothing happens: a not 0 .. b - 1 (above)");
        HushNet x = two();
        for (int t : new int[] {0, 1, 50, 95, 96}) {
            due("post", x.post(0, 0, t, t), -1);
            due("post", x.post(0, 0, t + 1, t), -1);
        }
        due("post", x.post(0, 0, 0, -1), -1);
        due("post", x.post(0, 0, 0, MIN), -1);
        due("post", x.post(0, 0, MAX, MIN), -1);
        due("count", x.count(4), 0);
        due("post of one tick", x.post(0, 0, 94, 95), 0);
    }

    private static void postToNoTick() {
        says("10: NONE, and nothing happens: b above 96");
        HushNet x = two();
        for (int b : new int[] {97, 98, 200, MAX}) {
            due("post to " + b, x.post(0, 0, 0, b), -1);
            due("post from 96 to " + b, x.post(0, 0, 96, b), -1);
        }
        due("count", x.count(4), 0);
        due("post to 96", x.post(0, 0, 95, 96), 0);
    }

    private static void postsOfOneWatcherApart() {
        says("10: NONE, and nothing happens: a POST of the WATCHER, that no FACT struck, has a TICK of these");
        int[][] taken = {{9, 11}, {10, 11}, {12, 13}, {19, 20}, {19, 21}, {10, 20}, {0, 96}, {9, 21}, {0, 11}};
        for (int s = 0; s < 2; s++) {
            HushNet x = two();
            due("post", x.post(0, 0, 10, 20), 0);
            for (int[] ab : taken) due("post " + ab[0] + " .. " + ab[1], x.post(0, s, ab[0], ab[1]), -1);
            due("count", x.count(4), 1);
            due("post to it", x.post(0, s, 9, 10), 1);
            due("post from its end", x.post(0, s, 20, 21), 2);
            due("post ahead", x.post(0, s, 0, 9), 3);
            due("post behind", x.post(0, s, 21, 96), 4);
        }
    }

    private static void postsOfOtherWatchers() {
        says("10: a POST of the WATCHER (not of another one)");
        HushNet x = two();
        for (int w = 0; w < 4; w++) due("post", x.post(w, 0, 10, 20), w);
        for (int w = 0; w < 4; w++) due("post", x.post(w, 1, 19, 20), -1);
    }

    private static void postOverAStruckOne() {
        says("10: a POST of the WATCHER, that no FACT struck");
        HushNet x = two();
        x.post(0, 0, 10, 20);
        x.post(0, 0, 20, 30);
        x.strike(0);
        due("post", x.post(0, 1, 10, 21), -1);
        due("post", x.post(0, 1, 10, 20), 3);
        due("post", x.post(0, 0, 19, 20), -1);
        x.strike(3);
        due("post", x.post(0, 0, 5, 20), 5);
    }

    private static void sightOfNoSuch() {
        says("11: NONE, and nothing happens: no such ones");
        HushNet x = two();
        for (int a : NO_AGENTS_OF_TWO) due("sight of " + a, x.sight(a, 0, 0), -1);
        for (int s : NO_SPOTS_OF_TWO) due("sight at " + s, x.sight(0, s, 0), -1);
        for (int t : NO_TICKS) due("sight in " + t, x.sight(0, 0, t), -1);
        due("count", x.count(4), 0);
        due("sight", x.sight(1, 1, 95), 0);
        due("sight", x.sight(0, 0, 0), 1);
    }

    private static void turnedOfNoSuch() {
        says("12: NONE, and nothing happens: no such ones");
        HushNet x = two();
        for (int a : NO_AGENTS_OF_TWO) due("turned of " + a, x.turned(a, 0), -1);
        for (int t : NO_TICKS) due("turned in " + t, x.turned(0, t), -1);
        due("count", x.count(4), 0);
        due("turned", x.turned(1, 95), 0);
        due("turned", x.turned(1, 0), 1);
    }

    private static void strikeOfNoFact() {
        says("13: NONE, and nothing happens: no such FACT");
        HushNet x = two();
        due("strike of nothing", x.strike(0), -1);
        x.sight(0, 0, 0);
        for (int f : new int[] {-1, 1, 2, 150, MIN, MAX}) due("strike(" + f + ")", x.strike(f), -1);
        due("count", x.count(4), 1);
        due("strike", x.strike(0), 1);
    }

    private static void strikeOfAStrike() {
        says("13: NONE, and nothing happens: a STRIKE");
        HushNet x = two();
        x.post(0, 0, 0, 1);
        x.sight(0, 0, 0);
        x.turned(0, 0);
        for (int f = 0; f < 3; f++) due("strike", x.strike(f), 3 + f);
        for (int f = 3; f < 6; f++) due("strike of a strike", x.strike(f), -1);
        due("count", x.count(4), 6);
    }

    private static void strikeTwice() {
        says("13: A STRIKE: its FACT's number (a struck FACT is one)");
        HushNet x = two();
        x.sight(0, 0, 0);
        due("strike", x.strike(0), 1);
        due("strike", x.strike(0), 2);
        due("struck", x.struck(0, 3), 1);
    }

    private static void factsFull() {
        says("10 to 13: NONE, and nothing happens: 150 are there");
        for (int kind = 0; kind < 4; kind++) {
            HushNet x = two();
            for (int i = 0; i < 149; i++) due("sight", x.sight(0, 0, 5), i);
            due("fact 149", fact(x, kind), 149);
            for (int k = 0; k < 4; k++) due("fact 150", fact(x, k), -1);
            due("count", x.count(4), 150);
            due("fits by all", x.fits(0, 150), 1);
            due("fits by one more", x.fits(0, 151), -1);
            due("run by all", x.run(150), 0);
            due("run by one more", x.run(151), -1);
            due("struck", x.struck(0, 150), kind == 3 ? 1 : 0);
            due("struck", x.struck(149, 150), 0);
            due("touched", x.touched(0, 150), kind == 2 ? 2 : -1);
            x.run(150);
            due("saws", x.saws(), kind == 0 ? 2 : 0);
        }
    }

    /** A fact of a kind that two() always has room for but for its number. */
    private static int fact(HushNet x, int kind) {
        if (kind == 0) return x.post(1, 0, 8, 9);
        if (kind == 1) return x.sight(0, 0, 5);
        return kind == 2 ? x.turned(0, 0) : x.strike(0);
    }

    private static void refusedFactsChangeNothing() {
        says("10 to 13: NONE, and nothing happens");
        HushNet x = two();
        x.sight(0, 0, 5);
        x.post(0, 0, 20, 96);
        x.post(0, 1, 30, 31);
        x.post(1, 1, 50, 97);
        x.sight(0, 1, 96);
        x.sight(2, 1, 5);
        x.turned(2, 0);
        x.turned(0, 96);
        x.strike(2);
        due("count", x.count(4), 2);
        due("struck", x.struck(0, 2), 0);
        due("fits", x.fits(0, 2), 1);
        due("canBe", x.canBe(0, 1, 30, 2), 1);
        due("canBe", x.canBe(0, 1, 50, 2), 1);
        due("touched", x.touched(0, 2), -1);
        due("sight", x.sight(0, 1, 6), 2);
    }

    private static void factsFromZero() {
        says("IV: FACTS, numbered from 0 on");
        HushNet x = two();
        due("turned", x.turned(0, 0), 0);
        due("sight", x.sight(0, 0, 0), 1);
        due("post", x.post(0, 0, 0, 1), 2);
        due("strike", x.strike(1), 3);
        due("sight", x.sight(0, 0, 0), 4);
    }

    // ---- As known by n ----
    private static void struckByAKnownStrike() {
        says("28: 1 if a FACT is struck, as KNOWN by n, else 0");
        HushNet x = twoWithFacts();
        x.strike(1);
        due("struck ahead of the strike", x.struck(1, 3), 0);
        due("struck", x.struck(1, 4), 1);
        due("not the one before", x.struck(0, 4), 0);
        due("not the one behind", x.struck(2, 4), 0);
        due("not the strike", x.struck(3, 4), 0);
        x.strike(0);
        due("struck", x.struck(0, 4), 0);
        due("struck", x.struck(0, 5), 1);
    }

    private static void struckNone() {
        says("28: NONE: no such one among them");
        HushNet x = twoWithFacts();
        for (int n = 0; n <= 3; n++) {
            for (int f = 0; f < 3; f++) due("struck(" + f + ", " + n + ")", x.struck(f, n), f < n ? 0 : -1);
            for (int f : new int[] {-1, 3, 4, 150, MIN, MAX}) due("struck(" + f + ", " + n + ")", x.struck(f, n), -1);
        }
        for (int n : NO_N_OF_THREE) due("struck(0, " + n + ")", x.struck(0, n), -1);
    }

    // ---- Where one can be ----
    private static void canBeAtAnySpotFirst() {
        says("IV: any SPOT in TICK 0");
        HushNet x = apart(10, 1);
        for (int s = 0; s < 10; s++) {
            due("canBe", x.canBe(0, s, 0, 0), 1);
            due("canBe", x.canBe(0, s, 95, 0), 1);
        }
        x.sight(0, 7, 0);
        for (int s = 0; s < 10; s++) due("canBe", x.canBe(0, s, 0, 1), s == 7 ? 1 : 0);
        for (int s = 0; s < 10; s++) due("canBe", x.canBe(0, s, 95, 1), s == 7 ? 1 : 0);
    }

    private static void canBeAfterAWay() {
        says("IV: from one TICK to the next it stays, or begins a WAY, at whose end it is then");
        for (int length = 1; length <= 9; length++) {
            HushNet x = line(2, length);
            x.agent(0, 0);
            x.sight(0, 0, 40);
            due("canBe too early", x.canBe(0, 1, 39 + length, 1), 0);
            due("canBe", x.canBe(0, 1, 40 + length, 1), 1);
            due("canBe too late", x.canBe(0, 1, 41 - length, 1), 0);
            due("canBe", x.canBe(0, 1, 40 - length, 1), 1);
            due("canBe", x.canBe(0, 0, 41, 1), 1);
            due("canBe", x.canBe(0, 0, 39, 1), 1);
            // Not on two ways at once, and both ways.
            due("canBe back", x.canBe(0, 0, 40 + 2 * length, 1), 1);
        }
    }

    private static void canBeByTheLastWay() {
        says("Terms: WAYS, 24 at most (by the 24th, too)");
        HushNet x = apart(10, 2);
        for (int i = 0; i < 23; i++) due("way", x.way(0, 1, 9), i);
        due("way", x.way(9, 8, 1), 23);
        x.sight(0, 9, 20);
        x.sight(1, 8, 20);
        x.post(0, 9, 21, 96);
        due("canBe", x.canBe(0, 8, 20, 3), 0);
        due("canBe", x.canBe(0, 8, 21, 3), 1);
        due("since", x.since(1, 1, 20, false, 3), 21);
        due("canBe", x.canBe(0, 9, 95, 1), 1);
    }

    private static void canBeOnAWayAtTheEnd() {
        says("IV: (At TICK 95 it may be on a WAY.)");
        HushNet x = line(2, 2);
        x.agent(0, 0);
        x.post(0, 0, 95, 96);
        x.post(1, 1, 95, 96);
        due("fits", x.fits(0, 2), 1);
        due("canBe", x.canBe(0, 0, 94, 2), 1);
        due("canBe", x.canBe(0, 0, 95, 2), 0);
        x = line(2, 1);
        x.agent(0, 0);
        x.post(0, 0, 95, 96);
        x.post(1, 1, 95, 96);
        due("fits by a way of one tick", x.fits(0, 2), 0);
        // Nine ticks before the end a way of nine ends in the last one.
        x = line(2, 9);
        x.agent(0, 0);
        x.post(0, 0, 87, 96);
        x.post(1, 1, 95, 96);
        due("canBe", x.canBe(0, 0, 86, 1), 1);
        due("canBe ahead of a watched end", x.canBe(0, 0, 86, 2), 0);
        due("fits by staying at 1 to 94", x.fits(0, 2), 1);
        due("canBe", x.canBe(0, 1, 94, 2), 1);
        x.post(2, 1, 87, 95);
        due("fits", x.fits(0, 3), 0);
    }

    private static void canBeJustThere() {
        says("IV: so that in each TICK of a SIGHT of it it is just there");
        HushNet x = line(3, 1);
        x.agent(0, 0);
        x.agent(0, 0);
        x.sight(0, 1, 30);
        for (int s = 0; s < 3; s++) {
            due("canBe", x.canBe(0, s, 30, 1), s == 1 ? 1 : 0);
            due("canBe a tick before", x.canBe(0, s, 29, 1), 1);
            due("canBe a tick behind", x.canBe(0, s, 31, 1), 1);
            due("canBe, another one", x.canBe(1, s, 30, 1), 1);
        }
        // On a way it is not there.
        x = line(2, 2);
        x.agent(0, 0);
        x.sight(0, 0, 30);
        due("canBe", x.canBe(0, 1, 32, 1), 1);
        x.sight(0, 0, 31);
        due("canBe", x.canBe(0, 1, 32, 2), 0);
        due("canBe", x.canBe(0, 1, 33, 2), 1);
        due("canBe", x.canBe(0, 1, 29, 2), 0);
        due("canBe", x.canBe(0, 1, 28, 2), 1);
        // In the first and in the last tick.
        x = line(2, 9);
        x.agent(0, 0);
        x.sight(0, 0, 0);
        x.sight(0, 1, 95);
        due("canBe", x.canBe(0, 1, 9, 2), 1);
        due("canBe", x.canBe(0, 1, 8, 2), 0);
        due("canBe", x.canBe(0, 0, 86, 2), 1);
        due("canBe", x.canBe(0, 0, 87, 2), 0);
    }

    private static void canBeAtNoPost() {
        says("IV: and in no other TICK at a SPOT where a WATCHER is POSTED");
        HushNet x = line(2, 1);
        x.agent(0, 0);
        x.post(3, 0, 10, 13);
        for (int t = 8; t < 15; t++) {
            due("canBe", x.canBe(0, 0, t, 1), t >= 10 && t < 13 ? 0 : 1);
            due("canBe", x.canBe(0, 1, t, 1), 1);
        }
        // It gets by on a way, but not by staying.
        x = line(2, 9);
        x.agent(0, 0);
        x.sight(0, 0, 9);
        x.post(0, 0, 10, 13);
        due("canBe", x.canBe(0, 0, 13, 2), 0);
        due("canBe", x.canBe(0, 1, 18, 2), 1);
        due("canBe", x.canBe(0, 0, 26, 2), 0);
        due("canBe", x.canBe(0, 0, 27, 2), 1);
    }

    private static void canBeAtAPostInASight() {
        says("IV: in no other TICK (than that of a SIGHT)");
        HushNet x = apart(2, 1);
        x.post(0, 0, 10, 12);
        due("canBe", x.canBe(0, 0, 10, 1), 0);
        x.sight(0, 0, 10);
        due("canBe", x.canBe(0, 0, 10, 2), 0);
        due("fits", x.fits(0, 2), 0);
        x.sight(0, 0, 11);
        due("canBe", x.canBe(0, 0, 10, 3), 1);
        due("canBe", x.canBe(0, 0, 95, 3), 1);
        due("canBe", x.canBe(0, 1, 10, 3), 0);
        due("fits", x.fits(0, 3), 1);
    }

    private static void canBePostTicks() {
        says("IV: POST: WATCHER 0 .. 3 is at a SPOT in TICKS a .. b - 1");
        HushNet x = line(2, 1);
        x.agent(0, 0);
        x.post(0, 0, 0, 1);
        x.post(1, 0, 95, 96);
        due("canBe", x.canBe(0, 0, 0, 2), 0);
        due("canBe", x.canBe(0, 0, 1, 2), 1);
        due("canBe", x.canBe(0, 0, 94, 2), 1);
        due("canBe", x.canBe(0, 0, 95, 2), 0);
        x.post(0, 0, 1, 95);
        for (int t = 0; t < 96; t++) due("canBe", x.canBe(0, 0, t, 3), 0);
    }

    private static void canBeKnownByN() {
        says("IV: As KNOWN by n: the first n of them, without those that a STRIKE among them names");
        HushNet x = apart(2, 1);
        x.sight(0, 0, 10);
        x.post(0, 0, 20, 21);
        x.strike(0);
        x.strike(1);
        int[] here = {1, 1, 0, 0, 1};
        int[] there = {1, 0, 0, 1, 1};
        for (int n = 0; n <= 4; n++) {
            due("canBe by " + n, x.canBe(0, 0, 5, n), here[n]);
            due("canBe by " + n, x.canBe(0, 1, 5, n), there[n]);
            due("fits by " + n, x.fits(0, n), here[n] | there[n]);
        }
    }

    private static void canBeNowhere() {
        says("29: 1 if an AGENT CAN BE there, else 0 (no row at all)");
        HushNet x = line(2, 1);
        x.agent(0, 0);
        x.sight(0, 0, 95);
        x.sight(0, 1, 95);
        for (int s = 0; s < 2; s++) {
            due("canBe", x.canBe(0, s, 0, 2), 0);
            due("canBe", x.canBe(0, s, 95, 2), 0);
            due("canBe", x.canBe(0, s, 95, 1), s == 0 ? 1 : 0);
        }
        // The same sight twice is one.
        x.strike(1);
        x.sight(0, 0, 95);
        due("canBe", x.canBe(0, 0, 95, 4), 1);
    }

    private static void canBeNone() {
        says("29: NONE: no such ones");
        HushNet x = twoWithFacts();
        for (int a : NO_AGENTS_OF_TWO) due("canBe(" + a + ", ..)", x.canBe(a, 0, 0, 0), -1);
        for (int s : NO_SPOTS_OF_TWO) due("canBe(0, " + s + ", ..)", x.canBe(0, s, 0, 0), -1);
        for (int t : NO_TICKS) due("canBe(0, 0, " + t + ", ..)", x.canBe(0, 0, t, 0), -1);
        for (int n : NO_N_OF_THREE) due("canBe(0, 0, 0, " + n + ")", x.canBe(0, 0, 0, n), -1);
        due("canBe", x.canBe(1, 1, 95, 3), 1);
    }

    private static void fitsOrNot() {
        says("30: 1 if there is a row for an AGENT at all, as KNOWN by n, else 0");
        HushNet x = line(2, 3);
        x.agent(0, 0);
        x.agent(0, 0);
        x.sight(0, 0, 10);
        x.sight(0, 1, 12);
        x.sight(0, 1, 13);
        x.strike(1);
        int[] due = {1, 1, 0, 0, 1};
        for (int n = 0; n <= 4; n++) {
            due("fits by " + n, x.fits(0, n), due[n]);
            due("fits, another one", x.fits(1, n), 1);
        }
        // All spots watched in tick 1: by a way of 2 it gets by, by one of 1 it does not.
        for (int length = 1; length <= 2; length++) {
            x = line(2, length);
            x.agent(0, 0);
            x.post(0, 0, 1, 2);
            x.post(1, 1, 1, 2);
            due("fits by a way of " + length, x.fits(0, 2), length - 1);
            due("canBe", x.canBe(0, 0, 0, 2), length - 1);
            due("canBe", x.canBe(0, 0, 1, 2), 0);
            due("canBe", x.canBe(0, 1, 2, 2), length - 1);
        }
        // All spots watched in the first tick.
        x = apart(1, 1);
        x.post(0, 0, 0, 1);
        due("fits", x.fits(0, 1), 0);
        due("fits", x.fits(0, 0), 1);
    }

    private static void fitsNone() {
        says("30: NONE: no such ones");
        HushNet x = twoWithFacts();
        for (int a : NO_AGENTS_OF_TWO) due("fits(" + a + ", 0)", x.fits(a, 0), -1);
        for (int n : NO_N_OF_THREE) due("fits(0, " + n + ")", x.fits(0, n), -1);
    }

    // ---- A word ----
    /** From tick 11 to 30 agents 0 and 1 are at one spot in tick 20 alone, agents 1 and 2 in tick 30 alone. By 9 facts. */
    private static HushNet passing() {
        HushNet x = new HushNet();
        for (int i = 0; i < 5; i++) x.spot();
        x.way(0, 3, 9);
        x.way(1, 3, 9);
        x.way(1, 4, 1);
        x.way(2, 4, 9);
        for (int i = 0; i < 3; i++) x.agent(0, 0);
        x.sight(0, 0, 11);
        x.sight(0, 3, 20);
        x.sight(0, 0, 29);
        x.sight(1, 1, 11);
        x.sight(1, 3, 20);
        x.sight(1, 1, 29);
        x.sight(1, 4, 30);
        x.sight(2, 4, 30);
        x.sight(2, 2, 21);
        return x;
    }

    private static void wordFromItsTick() {
        says("IV: an AGENT of the set HAS IT wherever it CAN BE from t on");
        HushNet x = pinned(0, 1);
        for (int t : new int[] {0, 1, 50, 95}) {
            due("since", x.since(0, 1, t, false, 2), t);
            due("since", x.since(1, 1, t, true, 2), -1);
            due("could", x.could(1, t, t, false, 2), 1);
        }
        // On a way in t: at its end.
        x = line(2, 5);
        x.agent(0, 0);
        x.sight(0, 0, 10);
        x.sight(0, 1, 15);
        due("since", x.since(0, 1, 10, false, 2), 10);
        due("since", x.since(0, 1, 11, false, 2), 15);
        due("since", x.since(0, 1, 15, false, 2), 15);
        due("could", x.could(1, 11, 14, false, 2), 0);
        due("could", x.could(1, 11, 15, false, 2), 1);
        // On a way at the end.
        x = line(2, 9);
        x.agent(0, 0);
        x.sight(0, 0, 90);
        x.post(0, 0, 91, 96);
        due("since", x.since(0, 1, 90, false, 2), 90);
        due("since", x.since(0, 1, 91, false, 2), -1);
        due("could", x.could(1, 91, 95, true, 2), 0);
    }

    private static void wordInTheSameTick() {
        says("IV: Another one that CAN BE at a SPOT in a TICK s where one that HAS IT can be in s");
        HushNet x = passing();
        due("since by 20", x.since(1, 1, 20, false, 9), 20);
        due("since by 12", x.since(1, 1, 12, false, 9), 20);
        due("since behind it", x.since(1, 1, 21, false, 9) > 29, true);
        due("since, the third", x.since(2, 1, 12, false, 9), 30);
        due("since, the third", x.since(2, 2, 30, false, 9), 30);
        due("since, the first by the third", x.since(0, 4, 12, false, 9) > 30, true);
        // Where one was a tick before is not where it is: they change places.
        x = line(2, 1);
        for (int i = 0; i < 2; i++) {
            x.agent(0, 0);
            x.sight(i, i, 20);
            x.sight(i, 1 - i, 21);
        }
        due("since", x.since(1, 1, 20, false, 4), 22);
        due("since", x.since(0, 2, 20, false, 4), 22);
        due("since with drops", x.since(1, 1, 20, true, 4), 21);
    }

    private static void wordGoesOnALongRow() {
        says("IV: and wherever it CAN BE afterwards on a row that goes by there");
        HushNet x = passing();
        // From spot 3 in tick 20 agent 1 comes to spot 1 in tick 29, and only from there to spot 4.
        due("could by 29", x.could(1, 20, 29, false, 9), 3);
        due("could by 30", x.could(1, 20, 30, false, 9), 7);
        // Agents 0 and 2 keep to their spots from 20 to 25; agent 1 can be at both in 21 and 22, but has it at spot 1 from 23 on.
        x = line(2, 3);
        for (int i = 0; i < 3; i++) x.agent(0, 0);
        x.sight(0, 0, 20);
        x.sight(0, 0, 25);
        x.sight(2, 1, 20);
        x.sight(2, 1, 25);
        due("canBe", x.canBe(1, 0, 21, 4) + x.canBe(1, 1, 21, 4), 2);
        due("since", x.since(1, 1, 20, false, 4), 20);
        due("since", x.since(2, 1, 20, false, 4), 23);
        due("could by 22", x.could(1, 20, 22, false, 4), 3);
        due("could by 23", x.could(1, 20, 23, false, 4), 7);
        // Agent 1 gets it in 20 and stays; agent 0 is gone when agent 2 comes by in 25.
        x = line(2, 3);
        x.spot();
        x.way(2, 0, 3);
        for (int i = 0; i < 3; i++) x.agent(0, 0);
        x.sight(0, 0, 20);
        x.sight(0, 1, 23);
        x.sight(0, 1, 26);
        x.sight(1, 0, 20);
        x.sight(1, 0, 25);
        x.sight(2, 2, 22);
        x.sight(2, 0, 25);
        due("since by one that stayed", x.since(2, 1, 20, false, 7), 25);
        due("could by 24", x.could(1, 20, 24, false, 7), 3);
        // Agent 1 can be at any spot, but where it had it there is no way to agent 2's.
        x = pinned(0, 0, 1);
        x.strike(1);
        due("canBe", x.canBe(1, 1, 50, 4), 1);
        due("could", x.could(1, 0, 95, true, 4), 3);
        due("could", x.could(2, 0, 95, true, 4), 7);
    }

    private static void wordDropped() {
        says("IV: (with DROPS: or in a TICK from t on ahead of s)");
        HushNet x = pinned(0, 1, 2);
        due("since without", x.since(1, 1, 0, false, 3), -1);
        due("since with drops, never there", x.since(1, 1, 0, true, 3), -1);
        dropped();
    }

    /** Agent 0 is at the middle spot in tick 20 alone, agent 1 in tick 25 alone. */
    private static void dropped() {
        HushNet x = line(3, 1);
        x.agent(0, 0);
        x.agent(0, 0);
        x.post(0, 1, 0, 96);
        x.sight(0, 0, 19);
        x.sight(0, 1, 20);
        x.sight(0, 0, 21);
        x.sight(1, 2, 24);
        x.sight(1, 1, 25);
        x.sight(1, 2, 26);
        due("since without", x.since(1, 1, 0, false, 7), -1);
        for (int t = 0; t <= 20; t++) due("since by " + t, x.since(1, 1, t, true, 7), 25);
        due("since by 21", x.since(1, 1, 21, true, 7), -1);
        due("could by 24", x.could(1, 0, 24, true, 7), 1);
        due("could by 25", x.could(1, 0, 25, true, 7), 3);
        due("could by 95", x.could(1, 0, 95, false, 7), 1);
        // Not a drop that comes later than the other one.
        due("since", x.since(0, 2, 0, true, 7), -1);
        due("could", x.could(2, 0, 95, true, 7), 2);
        // In the same tick no drop is wanted.
        x.strike(2);
        x.strike(3);
        x.sight(0, 0, 24);
        x.sight(0, 1, 25);
        due("since in the same tick", x.since(1, 1, 25, false, 11), 25);
    }

    private static void couldUpToThatTick() {
        says("IV: COULD KNOW by a TICK: it HAS IT somewhere up to that TICK");
        HushNet x = passing();
        due("could by 19", x.could(1, 11, 19, false, 9), 1);
        due("could by 19, on its way from 12 on", x.could(1, 12, 19, false, 9), 0);
        due("could by 20", x.could(1, 12, 20, false, 9), 3);
        due("could by 29", x.could(1, 12, 29, false, 9), 3);
        due("could by 30", x.could(1, 12, 30, false, 9), 7);
        due("could in t itself", x.could(1, 20, 20, false, 9), 3);
        due("could in the last tick", x.could(1, 95, 95, false, 9) & 1, 1);
    }

    private static void couldOfTheEmptySet() {
        says("31: a set (bits of AGENTS): the empty one");
        HushNet x = two();
        due("could", x.could(0, 0, 95, false, 0), 0);
        due("could", x.could(0, 0, 95, true, 0), 0);
        due("since", x.since(0, 0, 0, true, 0), -1);
        due("could without agents", new HushNet().could(0, 0, 0, false, 0), 0);
        due("could without agents", new HushNet().could(1, 0, 0, false, 0), -1);
    }

    private static void couldOfAllSets() {
        says("31: Who COULD KNOW a WORD that a set (bits of AGENTS) has");
        HushNet x = pinned(0, 1, 2, 3, 4, 5, 6, 7);
        for (int set = 0; set < 256; set++) due("could(" + set + ", ..)", x.could(set, 0, 95, true, 8), set);
        due("could(256, ..)", x.could(256, 0, 95, true, 8), -1);
        due("could(257, ..)", x.could(257, 0, 95, true, 8), -1);
        due("could(-1, ..)", x.could(-1, 0, 95, true, 8), -1);
    }

    private static void couldNone() {
        says("31: NONE: no such ones, \"by\" ahead of t");
        HushNet x = twoWithFacts();
        for (int set : NO_SETS_OF_TWO) due("could(" + set + ", ..)", x.could(set, 0, 95, false, 0), -1);
        for (int t : NO_TICKS) {
            due("could(1, " + t + ", 95, ..)", x.could(1, t, 95, false, 0), -1);
            due("could(1, 0, " + t + ", ..)", x.could(1, 0, t, false, 0), -1);
            due("could(1, " + t + ", " + t + ", ..)", x.could(1, t, t, false, 0), -1);
        }
        for (int n : NO_N_OF_THREE) due("could(.., " + n + ")", x.could(1, 0, 95, false, n), -1);
        due("by ahead of t", x.could(1, 5, 4, false, 0), -1);
        due("by ahead of t", x.could(1, 95, 0, false, 0), -1);
        due("by is t", x.could(1, 5, 5, false, 0), 3);
        due("by behind t", x.could(1, 0, 95, false, 3), 3);
    }

    private static void sinceToTheLastTick() {
        says("32: The first TICK in which an AGENT HAS IT somewhere, likewise (by 95)");
        HushNet x = line(2, 1);
        x.agent(0, 0);
        x.agent(0, 0);
        x.sight(0, 0, 94);
        x.sight(0, 1, 95);
        x.sight(1, 1, 94);
        x.post(0, 0, 95, 96);
        due("since in the last tick", x.since(1, 1, 94, false, 4), 95);
        due("since the same tick", x.since(1, 2, 94, false, 4), 94);
        // Who gets it in the tick ahead of the last one and stays has it in the last one.
        x = line(2, 1);
        for (int i = 0; i < 3; i++) x.agent(0, 0);
        x.sight(0, 0, 94);
        x.sight(0, 1, 95);
        x.sight(1, 0, 94);
        x.sight(1, 0, 95);
        x.sight(2, 1, 94);
        x.sight(2, 0, 95);
        due("since in the last tick by one that stayed", x.since(2, 1, 94, false, 6), 95);
        due("could", x.could(1, 94, 94, false, 6), 3);
        due("since tick 0", x.since(1, 2, 0, false, 0), 0);
        due("since tick 0", x.since(0, 2, 0, false, 0), 0);
    }

    private static void sinceNone() {
        says("32: NONE: never, no such ones");
        HushNet x = twoWithFacts();
        due("since never", x.since(1, 0, 0, true, 3), -1);
        for (int a : NO_AGENTS_OF_TWO) due("since(" + a + ", ..)", x.since(a, 1, 0, false, 0), -1);
        for (int set : NO_SETS_OF_TWO) due("since(0, " + set + ", ..)", x.since(0, set, 0, false, 0), -1);
        for (int t : NO_TICKS) due("since(0, 1, " + t + ", ..)", x.since(0, 1, t, false, 0), -1);
        for (int n : NO_N_OF_THREE) due("since(.., " + n + ")", x.since(0, 1, 0, false, n), -1);
        due("since", x.since(1, 1, 95, false, 3), 95);
    }

    // ---- Turned ones ----
    private static void touchedFromThatTick() {
        says("33: those that CAN BE at a SPOT where it CAN BE in the same TICK, from that one on");
        // Until tick 20 agents 0 and 1 can be at one spot, then each is at its own; agent 2 likewise from tick 40 on.
        HushNet x = line(2, 1);
        for (int i = 0; i < 2; i++) x.agent(0, 0);
        x.post(0, 1, 21, 96);
        x.sight(0, 0, 20);
        x.sight(1, 1, 20);
        for (int t = 21; t < 96; t++) x.sight(1, 1, t);
        int n = x.count(4);
        int[] ticks = {0, 19, 20, 95};
        int[] due = {2, 2, 0, 0};
        for (int i = 0; i < 4; i++) {
            due("turned", x.turned(0, ticks[i]), n + 2 * i);
            due("touched from " + ticks[i], x.touched(0, n + 1 + 2 * i), due[i]);
            x.strike(n + 2 * i);
        }
        // In the first tick alone.
        x = apart(2, 2);
        x.way(0, 1, 9);
        for (int t = 0; t < 96; t++) x.sight(0, 0, t);
        x.post(0, 0, 1, 96);
        x.sight(1, 0, 0);
        x.sight(1, 1, 9);
        x.turned(0, 1);
        due("touched from 1", x.touched(0, 100), 0);
        x.turned(0, 0);
        due("touched from 0", x.touched(0, 101), 2);
        // In the last tick alone.
        x = two();
        x.turned(0, 95);
        due("touched", x.touched(0, 1), 2);
        // The same spot in another tick is not the same tick.
        x = line(2, 1);
        for (int i = 0; i < 2; i++) x.agent(0, 0);
        x.sight(0, 0, 94);
        x.sight(0, 1, 95);
        x.sight(1, 1, 94);
        x.sight(1, 0, 95);
        x.turned(0, 94);
        due("touched", x.touched(0, 5), 0);
    }

    private static void touchedLeastTick() {
        says("33: TURNED (the least TICK KNOWN by n)");
        HushNet x = line(2, 9);
        for (int i = 0; i < 2; i++) x.agent(0, 0);
        x.sight(0, 0, 94);
        x.sight(0, 0, 95);
        x.sight(1, 1, 94);
        x.turned(0, 95);
        x.turned(0, 94);
        x.turned(0, 50);
        x.turned(0, 95);
        x.strike(5);
        x.turned(1, 0);
        int[] due = {-1, -1, -1, -1, 0, 0, 2, 2, 0, 0};
        for (int n = 0; n <= 9; n++) due("touched by " + n, x.touched(0, n), due[n]);
        due("touched, the other one", x.touched(1, 9), 1);
        due("touched, the other one", x.touched(1, 8), -1);
    }

    private static void touchedNotItself() {
        says("33: (bits, not itself)");
        HushNet x = apart(1, 8);
        for (int a = 0; a < 8; a++) x.turned(a, 0);
        for (int a = 0; a < 8; a++) due("touched", x.touched(a, 8), 255 - (1 << a));
        x = apart(1, 1);
        x.turned(0, 0);
        due("touched alone", x.touched(0, 1), 0);
    }

    private static void touchedNone() {
        says("33: NONE: it is not TURNED, no such ones");
        HushNet x = twoWithFacts();
        due("touched ahead of it", x.touched(0, 1), -1);
        due("touched", x.touched(0, 2), 2);
        due("touched ahead of it", x.touched(1, 2), -1);
        due("touched", x.touched(1, 3), 1);
        for (int a : NO_AGENTS_OF_TWO) due("touched(" + a + ", 3)", x.touched(a, 3), -1);
        for (int n : NO_N_OF_THREE) due("touched(0, " + n + ")", x.touched(0, n), -1);
        x.strike(1);
        due("touched, the fact struck", x.touched(0, 4), -1);
        // Turned, but can be nowhere.
        x = two();
        x.sight(0, 0, 5);
        x.sight(0, 1, 5);
        x.turned(0, 0);
        due("touched", x.touched(0, 3), 0);
    }

    // ---- The feeding ----
    private static void fedOneAtLeast() {
        says("34: suspects (a set, one at least)");
        HushNet x = pinned(0, 1, 2);
        due("fed none", x.fed(0, 1, 0, 95, false, 3), -1);
        for (int a = 0; a < 3; a++) {
            due("fed one", x.fed(1 << a, 3, 0, 95, false, 3), 1);
            for (int i = 0; i < 3; i++) due("word", x.word(i), i == a ? 0 : -1);
            for (int w = 0; w < 3; w++) due("doubt", x.doubt(w), w == 0 ? 1 : 0);
        }
        x = pinned(0, 1, 2, 3, 4, 5, 6, 7);
        due("fed all", x.fed(255, 3, 0, 95, true, 8), 3);
        int[] words = {0, 0, 0, 1, 1, 1, 2, 2};
        for (int i = 0; i < 8; i++) due("word", x.word(i), words[i]);
        int[] doubts = {3, 3, 2};
        for (int w = 0; w < 3; w++) due("doubt", x.doubt(w), doubts[w]);
        due("fed one more", x.fed(256, 3, 0, 95, true, 8), -1);
    }

    private static void fedWords() {
        says("34: W (1 .. 3) words");
        HushNet x = pinned(0, 1, 2);
        int[] worst = {3, 2, 1};
        for (int w = 1; w <= 3; w++) due("fed " + w, x.fed(7, w, 0, 95, false, 3), worst[w - 1]);
        for (int w : new int[] {0, 4, -1, MIN, MAX}) due("fed " + w, x.fed(7, w, 0, 95, false, 3), -1);
    }

    private static void fedByTick() {
        says("IV: each suspect that COULD KNOW it by T");
        HushNet x = passing();
        int[] by = {19, 20, 29, 30};
        int[] due = {1, 2, 2, 3};
        for (int i = 0; i < 4; i++) {
            due("fed by " + by[i], x.fed(7, 3, 12, by[i], false, 9), due[i]);
            due("fed one by " + by[i], x.fed(5, 2, 12, by[i], false, 9), i < 3 ? 1 : 2);
        }
        // From t on alone: what was ahead does not count.
        due("fed in 20", x.fed(3, 2, 20, 20, false, 9), 2);
        due("fed in 21", x.fed(3, 2, 21, 29, false, 9), 1);
        due("fed in one tick", x.fed(7, 1, 30, 30, false, 9), 3);
    }

    private static void fedOthersAmongSuspects() {
        says("IV: (of those who got it in t, the others among the suspects too)");
        HushNet x = pinned(0, 0, 1);
        due("fed", x.fed(7, 2, 0, 95, false, 3), 2);
        due("word", x.word(0), 0);
        due("word", x.word(1), 0);
        due("word", x.word(2), 1);
        due("fed, the second no suspect", x.fed(5, 2, 0, 95, false, 3), 1);
        due("word", x.word(2), 1);
        due("doubt", x.doubt(0), 1);
        // By one that is no suspect the word goes on.
        x = passing();
        due("fed", x.fed(5, 2, 12, 30, false, 9), 2);
        due("doubt", x.doubt(0), 2);
        due("doubt", x.doubt(1), 0);
    }

    private static void fedFirstOfTheBest() {
        says("IV: of these the first (the least suspect's word the least, then the next one's)");
        HushNet x = pinned(0, 1, 2, 3);
        due("fed", x.fed(15, 2, 0, 95, false, 4), 2);
        int[] words = {0, 0, 1, 1};
        for (int i = 0; i < 4; i++) due("word", x.word(i), words[i]);
        // All in doubt by each word: the same word for all.
        x = pinned(3, 3, 3);
        due("fed", x.fed(7, 3, 0, 95, false, 3), 3);
        for (int i = 0; i < 3; i++) due("word", x.word(i), 0);
        for (int w = 0; w < 3; w++) due("doubt", x.doubt(w), w == 0 ? 3 : 0);
        // 1 and 2 at one spot, 0 and 3 alone: two, two.
        x = pinned(0, 1, 1, 2);
        due("fed", x.fed(15, 2, 0, 95, false, 4), 2);
        int[] other = {0, 1, 1, 0};
        for (int i = 0; i < 4; i++) due("word", x.word(i), other[i]);
        due("fed", x.fed(14, 3, 0, 95, false, 4), 2);
        due("word", x.word(0), -1);
        due("word", x.word(1), 0);
        due("word", x.word(2), 0);
        due("word", x.word(3), 1);
    }

    private static void fedWhomNobodyCanBe() {
        says("IV: THE FEEDING: whose worst such number is least (none can know it)");
        HushNet x = two();
        x.sight(0, 0, 5);
        x.sight(0, 1, 5);
        due("fed", x.fed(1, 2, 0, 95, true, 2), 0);
        due("word", x.word(0), 0);
        due("doubt", x.doubt(0), 0);
        due("doubt", x.doubt(1), 0);
        due("fed", x.fed(3, 2, 0, 95, true, 2), 1);
        due("word", x.word(1), 0);
    }

    private static void fedNone() {
        says("34: NONE: no such ones, \"by\" ahead of t");
        HushNet x = twoWithFacts();
        for (int set : NO_SETS_OF_TWO) due("fed(" + set + ", ..)", x.fed(set, 1, 0, 95, false, 0), -1);
        for (int t : NO_TICKS) {
            due("fed(.., " + t + ", 95, ..)", x.fed(1, 1, t, 95, false, 0), -1);
            due("fed(.., 0, " + t + ", ..)", x.fed(1, 1, 0, t, false, 0), -1);
            due("fed(.., " + t + ", " + t + ", ..)", x.fed(1, 1, t, t, false, 0), -1);
        }
        for (int n : NO_N_OF_THREE) due("fed(.., " + n + ")", x.fed(1, 1, 0, 95, false, n), -1);
        due("by ahead of t", x.fed(1, 1, 5, 4, false, 0), -1);
        due("nothing was fed", x.word(0), -1);
        due("nothing was fed", x.doubt(0), -1);
        due("by is t", x.fed(1, 1, 5, 5, false, 0), 1);
        due("by is t", x.fed(3, 1, 95, 95, true, 3), 2);
    }

    private static void refusedFedChangesNothing() {
        says("34: NONE, and nothing happens");
        HushNet x = pinned(0, 1, 2);
        due("fed", x.fed(6, 2, 0, 95, false, 3), 1);
        int[][] refused = {{0, 1, 0, 95, 3}, {8, 1, 0, 95, 3}, {7, 0, 0, 95, 3}, {7, 4, 0, 95, 3}, {7, 1, 96, 96, 3}, {7, 1, 5, 4, 3}, {7, 1, 0, 95, 4}, {7, 1, 0, 95, -1}};
        for (int[] f : refused) {
            due("fed", x.fed(f[0], f[1], f[2], f[3], false, f[4]), -1);
            due("word", x.word(0), -1);
            due("word", x.word(1), 0);
            due("word", x.word(2), 1);
            due("doubt", x.doubt(0), 1);
            due("doubt", x.doubt(1), 1);
            due("doubt", x.doubt(2), -1);
        }
    }

    private static void wordNone() {
        says("35: NONE: none, no such one");
        HushNet x = pinned(0, 1, 2);
        x.fed(5, 3, 0, 95, false, 3);
        due("word", x.word(0), 0);
        due("word, none", x.word(1), -1);
        due("word", x.word(2), 1);
        for (int a : new int[] {-1, 3, 8, MIN, MAX}) due("word(" + a + ")", x.word(a), -1);
        // One that came behind it got none; the latest feeding counts.
        x.agent(0, 0);
        due("word", x.word(3), -1);
        x.fed(2, 1, 0, 95, false, 3);
        for (int a = 0; a < 4; a++) due("word", x.word(a), a == 1 ? 0 : -1);
    }

    private static void doubtNone() {
        says("36: 0: nobody got it; NONE: no such word");
        HushNet x = pinned(0, 1, 2);
        for (int words = 1; words <= 3; words++) {
            x.fed(1, words, 0, 95, false, 3);
            due("doubt", x.doubt(0), 1);
            for (int w = 1; w < words; w++) due("doubt nobody got", x.doubt(w), 0);
            for (int w : new int[] {-1, words, 3, 4, MIN, MAX}) due("doubt(" + w + ")", x.doubt(w), -1);
        }
        x.fed(7, 3, 0, 95, false, 3);
        x.fed(7, 1, 0, 95, false, 3);
        due("doubt of the latest", x.doubt(0), 3);
        due("doubt of the latest", x.doubt(1), -1);
    }
}
