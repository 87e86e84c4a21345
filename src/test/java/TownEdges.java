/** The town's sentences that name an edge, each with a test of its own: the new object, spots, ways, agents, codes given, distances, counts. */
public final class TownEdges extends Kit {
    private static final int[] NO_SPOTS_OF_THREE = {-1, 3, 10, MIN, MAX};

    public static void main(String[] args) {
        nothingAtFirst();
        noRunAtFirst();
        nothingFedAtFirst();
        spotsFromZero();
        tenSpots();
        waysFromZero();
        twentyFourWays();
        wayBetweenNoSpots();
        wayFromSpotToItself();
        wayOfNoSuchLength();
        wayOfEachLength();
        refusedWayChangesNothing();
        agentsFromZero();
        eightAgents();
        agentAtNoSpot();
        agentOfNoSuchSecrets();
        agentOfAnySecrets();
        refusedAgentChangesNothing();
        firstPlaceAndSecrets();
        noCodeAtFirst();
        givenCode();
        givenNone();
        givenByNoAgent();
        givenNoSuchCode();
        refusedGiveChangesNothing();
        distanceToItself();
        distanceBetweenNoSpots();
        distanceWithoutWay();
        distanceBothWays();
        farthestDistance();
        shortestOfTwoWays();
        shorterByAnotherSpot();
        waysElsewhere();
        leastNextSpot();
        leastNextSpotFromThere();
        shortestWayToNextSpot();
        shortestAndLongestWalk();
        countedOnes();
        noSuchCount();
        finish("TownEdges");
    }

    // ---- A new object ----
    private static void nothingAtFirst() {
        says("1: No SPOTS, AGENTS, CODES, FACTS");
        HushNet x = new HushNet();
        for (int what = 0; what <= 5; what++) due("count(" + what + ")", x.count(what), 0);
        due("agent", x.agent(0, 0), -1);
        due("way", x.way(0, 1, 1), -1);
        due("distance", x.distance(0, 0), -1);
        due("give", x.give(0, -1), false);
        due("post", x.post(0, 0, 0, 1), -1);
        due("sight", x.sight(0, 0, 0), -1);
        due("turned", x.turned(0, 0), -1);
        due("strike", x.strike(0), -1);
        due("struck", x.struck(0, 0), -1);
        due("canBe", x.canBe(0, 0, 0, 0), -1);
        due("fits", x.fits(0, 0), -1);
        due("since", x.since(0, 0, 0, false, 0), -1);
        due("touched", x.touched(0, 0), -1);
        due("could with the empty set", x.could(0, 0, 0, false, 0), 0);
        due("run", x.run(1), -1);
        due("run", x.run(0), 0);
    }

    private static void noRunAtFirst() {
        says("1: nothing was run");
        HushNet x = line(2, 1);
        x.agent(0, 255);
        x.agent(0, 255);
        due("where", x.where(0, 0), -1);
        due("knows", x.knows(0, 0), -1);
        due("chain", x.chain(0, 0, 0), -1);
        due("has", x.has(0, 0), -1);
        due("left", x.left(0), -1);
        due("met", x.met(0, 1), -1);
        due("ended", x.ended(0), -1);
        due("deeds", x.deeds(0), -1);
        due("saws", x.saws(), -1);
        due("saw", sawOf(x, 0), THROWN);
        for (int k = 1; k <= 3; k++) {
            due("falls", x.falls(k), -1);
            due("fallen", x.fallen(k), -1);
        }
    }

    private static void nothingFedAtFirst() {
        says("35, 36: nothing was fed");
        HushNet x = line(1, 1);
        x.agent(0, 0);
        due("word", x.word(0), -1);
        for (int w = 0; w < 3; w++) due("doubt", x.doubt(w), -1);
        due("fed", x.fed(1, 3, 0, 0, false, 0), 1);
        due("word", x.word(0), 0);
        due("doubt", x.doubt(2), 0);
    }

    // ---- Spots and ways ----
    private static void spotsFromZero() {
        says("6: A SPOT: its number");
        HushNet x = new HushNet();
        due("spot", x.spot(), 0);
        due("spot", x.spot(), 1);
        due("agent", x.agent(1, 0), 0);
        due("agent", x.agent(2, 0), -1);
    }

    private static void tenSpots() {
        says("6: NONE: 10 are there");
        HushNet x = new HushNet();
        for (int i = 0; i < 10; i++) due("spot", x.spot(), i);
        due("spot", x.spot(), -1);
        due("spot", x.spot(), -1);
        due("count", x.count(0), 10);
        due("agent", x.agent(9, 0), 0);
        due("agent", x.agent(10, 0), -1);
        due("distance", x.distance(9, 9), 0);
        due("distance", x.distance(10, 10), -1);
        due("distance", x.distance(10, 0), -1);
        due("distance", x.distance(0, 10), -1);
        due("way", x.way(9, 10, 1), -1);
        due("way", x.way(9, 8, 1), 0);
    }

    private static void waysFromZero() {
        says("7: A WAY: its number");
        HushNet x = line(3, 1);
        due("way", x.way(2, 0, 5), 2);
        due("way", x.way(2, 0, 5), 3);
        due("count", x.count(1), 4);
    }

    private static void twentyFourWays() {
        says("7: NONE, and nothing happens: 24 are there");
        HushNet x = line(3, 9);
        for (int i = 2; i < 24; i++) due("way", x.way(0, 1, 9), i);
        due("way", x.way(0, 1, 1), -1);
        due("way", x.way(0, 2, 1), -1);
        due("count", x.count(1), 24);
        due("distance", x.distance(0, 1), 9);
        due("distance", x.distance(0, 2), 18);
    }

    private static void wayBetweenNoSpots() {
        says("7: NONE, and nothing happens: no such SPOTS");
        for (int s : NO_SPOTS_OF_THREE) {
            HushNet x = line(3, 1);
            due("way(" + s + ", 0, 1)", x.way(s, 0, 1), -1);
            due("way(0, " + s + ", 1)", x.way(0, s, 1), -1);
            due("count", x.count(1), 2);
        }
        HushNet x = line(1, 1);
        due("way", x.way(0, 1, 1), -1);
        x.spot();
        due("way", x.way(0, 1, 1), 0);
    }

    private static void wayFromSpotToItself() {
        says("7: NONE, and nothing happens: one and the same");
        HushNet x = line(3, 1);
        for (int s = 0; s < 3; s++) due("way", x.way(s, s, 1), -1);
        due("count", x.count(1), 2);
        due("distance", x.distance(1, 1), 0);
    }

    private static void wayOfNoSuchLength() {
        says("7: NONE, and nothing happens: no such LENGTH");
        HushNet x = line(2, 9);
        for (int length : new int[] {0, 10, -1, -9, MIN, MAX}) due("way of " + length, x.way(0, 1, length), -1);
        due("count", x.count(1), 1);
        due("distance", x.distance(0, 1), 9);
    }

    private static void wayOfEachLength() {
        says("Terms: LENGTH 1 .. 9");
        for (int length = 1; length <= 9; length++) {
            HushNet x = line(2, length);
            due("count", x.count(1), 1);
            due("distance", x.distance(0, 1), length);
        }
    }

    private static void refusedWayChangesNothing() {
        says("7: NONE, and nothing happens");
        HushNet x = new HushNet();
        x.spot();
        x.spot();
        due("way", x.way(0, 1, 10), -1);
        due("way", x.way(0, 2, 1), -1);
        due("distance", x.distance(0, 1), -1);
        due("way", x.way(0, 1, 3), 0);
        due("distance", x.distance(0, 1), 3);
    }

    // ---- Agents ----
    private static void agentsFromZero() {
        says("8: An AGENT: its number");
        HushNet x = line(2, 1);
        due("agent", x.agent(1, 0), 0);
        due("agent", x.agent(1, 0), 1);
        due("count", x.count(2), 2);
    }

    private static void eightAgents() {
        says("8: NONE, and nothing happens: 8 are there");
        HushNet x = line(1, 1);
        for (int i = 0; i < 8; i++) due("agent", x.agent(0, i), i);
        due("agent", x.agent(0, 0), -1);
        due("agent", x.agent(0, 255), -1);
        due("count", x.count(2), 8);
        x.run(0);
        due("where", x.where(7, 0), 0);
        due("knows", x.knows(7, 3), -1);
        due("where", x.where(8, 0), -1);
    }

    private static void agentAtNoSpot() {
        says("8: NONE, and nothing happens: no such SPOT");
        HushNet x = line(3, 1);
        for (int s : NO_SPOTS_OF_THREE) due("agent(" + s + ", 0)", x.agent(s, 0), -1);
        due("count", x.count(2), 0);
        due("agent", x.agent(2, 0), 0);
    }

    private static void agentOfNoSuchSecrets() {
        says("8: NONE, and nothing happens: SECRETS (0 .. 255)");
        HushNet x = line(1, 1);
        for (int s : new int[] {-1, 256, 257, 511, MIN, MAX, 1 << 31 | 1}) due("agent(0, " + s + ")", x.agent(0, s), -1);
        due("count", x.count(2), 0);
        due("agent", x.agent(0, 0), 0);
        due("agent", x.agent(0, 255), 1);
    }

    private static void agentOfAnySecrets() {
        says("Terms: SECRETS 0 .. 7; the SECRETS that it KNOWS from TICK 0 on (bits)");
        for (int secret = 0; secret < 8; secret++) {
            HushNet x = line(1, 1);
            x.agent(0, 1 << secret);
            x.agent(0, 255 - (1 << secret));
            due("run", x.run(0), 0);
            for (int s = 0; s < 8; s++) {
                due("knows", x.knows(0, s), s == secret ? 0 : -1);
                due("knows", x.knows(1, s), s == secret ? -1 : 0);
            }
        }
    }

    private static void refusedAgentChangesNothing() {
        says("8: NONE, and nothing happens");
        HushNet x = line(2, 1);
        due("agent", x.agent(2, 255), -1);
        due("agent", x.agent(1, 256), -1);
        due("agent", x.agent(0, 2), 0);
        x.run(0);
        due("where", x.where(0, 0), 0);
        due("knows", x.knows(0, 0), -1);
        due("knows", x.knows(0, 1), 0);
    }

    private static void firstPlaceAndSecrets() {
        says("Terms: a SPOT at which it is in TICK 0, the SECRETS that it KNOWS from TICK 0 on");
        HushNet x = play(line(3, 1), new int[] {2}, new int[] {4}, codes("go 0; wait 5; go 2;"));
        due("where 0", x.where(0, 0), 2);
        due("where 95", x.where(0, 95), 2);
        due("knows", x.knows(0, 2), 0);
        due("chain", x.chain(0, 2, 0), 0);
        due("chain", x.chain(0, 2, 1), -1);
    }

    // ---- Codes given ----
    private static void noCodeAtFirst() {
        says("Terms: a CODE or none (none at first)");
        HushNet x = line(2, 1);
        x.agent(0, 0);
        read(x, codes("go 1;"));
        x.agent(0, 0);
        x.run(0);
        for (int a = 0; a < 2; a++) {
            due("where", x.where(a, 95), 0);
            due("deeds", x.deeds(a), 0);
            due("ended", x.ended(a), 0);
        }
    }

    private static void givenCode() {
        says("9: An AGENT gets a CODE: true");
        HushNet x = line(2, 1);
        x.agent(0, 0);
        x.agent(0, 0);
        read(x, codes("mark 0;", "mark 1;", "mark 2;"));
        due("give the first", x.give(0, 0), true);
        due("give the last", x.give(1, 2), true);
        x.run(0);
        due("left", x.left(0), 1 + 4);
        due("give another", x.give(0, 1), true);
        x.run(0);
        due("left", x.left(0), 2 + 4);
    }

    private static void givenNone() {
        says("9: (NONE: none): true");
        HushNet x = line(2, 1);
        x.agent(0, 0);
        due("give without codes", x.give(0, -1), true);
        read(x, codes("mark 0;"));
        x.give(0, 0);
        due("give", x.give(0, -1), true);
        x.run(0);
        due("left", x.left(0), 0);
        due("deeds", x.deeds(0), 0);
    }

    private static void givenByNoAgent() {
        says("9: false: there are none such (AGENTS)");
        HushNet x = line(2, 1);
        read(x, codes("mark 0;"));
        due("give without agents", x.give(0, 0), false);
        x.agent(0, 0);
        for (int a : new int[] {-1, 1, 8, MIN, MAX}) {
            due("give(" + a + ", 0)", x.give(a, 0), false);
            due("give(" + a + ", NONE)", x.give(a, -1), false);
        }
        due("give", x.give(0, 0), true);
    }

    private static void givenNoSuchCode() {
        says("9: false: there are none such (CODES)");
        HushNet x = line(2, 1);
        x.agent(0, 0);
        due("give without codes", x.give(0, 0), false);
        read(x, codes("mark 0;", "mark 1;"));
        due("give", x.give(0, 1), true);
        for (int c : new int[] {-2, 2, 8, MIN, MAX}) due("give(0, " + c + ")", x.give(0, c), false);
    }

    private static void refusedGiveChangesNothing() {
        says("9: false: there are none such; its CODE stays");
        HushNet x = line(2, 1);
        x.agent(0, 0);
        read(x, codes("mark 0;", "mark 1;"));
        x.give(0, 1);
        due("give", x.give(0, 2), false);
        due("give", x.give(0, -2), false);
        x.run(0);
        due("left", x.left(0), 2);
    }

    // ---- Distances ----
    private static void distanceToItself() {
        says("14: LENGTH of THE NEAREST way, of none at all: 0");
        HushNet x = line(3, 4);
        x.spot();
        for (int s = 0; s < 4; s++) due("distance", x.distance(s, s), 0);
    }

    private static void distanceBetweenNoSpots() {
        says("14: NONE: no such SPOTS");
        HushNet x = line(3, 1);
        for (int s : NO_SPOTS_OF_THREE) {
            due("distance(" + s + ", 0)", x.distance(s, 0), -1);
            due("distance(0, " + s + ")", x.distance(0, s), -1);
            due("distance(" + s + ", " + s + ")", x.distance(s, s), -1);
        }
    }

    private static void distanceWithoutWay() {
        says("14: NONE: there is none");
        HushNet x = line(3, 1);
        x.spot();
        x.spot();
        x.way(3, 4, 1);
        due("distance", x.distance(0, 3), -1);
        due("distance", x.distance(4, 2), -1);
        due("distance", x.distance(3, 4), 1);
        x.way(4, 2, 9);
        due("distance", x.distance(0, 3), 12);
    }

    private static void distanceBothWays() {
        says("Terms: WAYS between two SPOTS");
        HushNet x = new HushNet();
        for (int i = 0; i < 3; i++) x.spot();
        x.way(1, 0, 2);
        x.way(1, 2, 3);
        due("distance", x.distance(0, 2), 5);
        due("distance", x.distance(2, 0), 5);
    }

    private static void farthestDistance() {
        says("14: LENGTH of THE NEAREST way, by ten SPOTS, 9 each");
        HushNet x = line(10, 9);
        due("distance", x.distance(0, 9), 81);
        due("distance", x.distance(9, 0), 81);
        x.agent(0, 0);
        read(x, codes("go 9;"));
        x.give(0, 0);
        x.run(0);
        due("where", x.where(0, 80), -1);
        due("where", x.where(0, 81), 9);
    }

    private static void shortestOfTwoWays() {
        says("Terms: the least LENGTH (of two WAYS between the same SPOTS)");
        HushNet x = line(2, 5);
        x.way(1, 0, 6);
        due("distance", x.distance(0, 1), 5);
        x.way(1, 0, 4);
        due("distance", x.distance(0, 1), 4);
    }

    private static void shorterByAnotherSpot() {
        says("Terms: the least LENGTH of all its WAYS together");
        HushNet x = line(3, 4);
        x.way(0, 2, 9);
        due("distance", x.distance(0, 2), 8);
        play(x, new int[] {0}, new int[] {0}, codes("go 2;"));
        due("where", x.where(0, 4), 1);
        due("where", x.where(0, 8), 2);
        x.way(0, 2, 7);
        due("distance", x.distance(0, 2), 7);
        x.run(0);
        due("where", x.where(0, 4), -1);
        due("where", x.where(0, 7), 2);
    }

    private static void waysElsewhere() {
        says("Terms: the least LENGTH of all its WAYS together (of those that begin there)");
        HushNet x = new HushNet();
        for (int i = 0; i < 5; i++) x.spot();
        x.way(3, 4, 1);
        x.way(0, 2, 2);
        x.way(2, 1, 3);
        play(x, new int[] {1}, new int[] {0}, codes("go 2; wait 1; go 0;"));
        int[] row = {1, -1, -1, 2, 2, -1, 0, 0};
        for (int t = 0; t < row.length; t++) due("where " + t, x.where(0, t), row[t]);
    }

    private static void leastNextSpot() {
        says("Terms: of alike ones that whose next SPOT is the least");
        HushNet x = new HushNet();
        for (int i = 0; i < 4; i++) x.spot();
        x.way(0, 3, 4);
        x.way(0, 2, 2);
        x.way(2, 3, 2);
        x.way(0, 1, 3);
        x.way(1, 3, 1);
        play(x, new int[] {0, 3}, new int[] {0, 0}, codes("go 3;", "go 0;"));
        due("where by 1", x.where(0, 2), -1);
        due("where by 1", x.where(0, 3), 1);
        due("where", x.where(0, 4), 3);
        // From 3 its next spot can be 0 itself, the least.
        due("where", x.where(1, 1), -1);
        due("where", x.where(1, 2), -1);
        due("where", x.where(1, 4), 0);
    }

    private static void leastNextSpotFromThere() {
        says("Terms: of alike ones that whose next SPOT is the least, from there likewise");
        HushNet x = new HushNet();
        for (int i = 0; i < 6; i++) x.spot();
        x.way(0, 5, 1);
        x.way(5, 4, 1);
        x.way(5, 3, 1);
        x.way(4, 1, 1);
        x.way(3, 1, 1);
        x.way(5, 2, 2);
        play(x, new int[] {0}, new int[] {0}, codes("go 1;"));
        int[] row = {0, 5, 3, 1, 1};
        for (int t = 0; t < row.length; t++) due("where " + t, x.where(0, t), row[t]);
    }

    private static void shortestWayToNextSpot() {
        says("Terms: (a WAY to that SPOT: the shortest)");
        HushNet x = new HushNet();
        for (int i = 0; i < 3; i++) x.spot();
        x.way(0, 1, 5);
        x.way(1, 0, 2);
        x.way(0, 1, 3);
        x.way(1, 2, 1);
        play(x, new int[] {0}, new int[] {0}, codes("go 2;"));
        int[] row = {0, -1, 1, 2, 2, 2};
        for (int t = 0; t < row.length; t++) due("where " + t, x.where(0, t), row[t]);
    }

    private static void shortestAndLongestWalk() {
        says("Terms: at its other end in the TICK t + LENGTH, and at no SPOT between");
        for (int length = 1; length <= 9; length++) {
            HushNet x = play(line(2, length), new int[] {1}, new int[] {0}, codes("wait 3; go 0;"));
            due("where", x.where(0, 3), 1);
            for (int t = 4; t < 3 + length; t++) due("where", x.where(0, t), -1);
            due("where", x.where(0, 3 + length), 0);
        }
    }

    // ---- Counts ----
    private static void countedOnes() {
        says("37: 0 SPOTS, 1 WAYS, 2 AGENTS, 3 CODES, 4 FACTS, 5 bytes on the tape");
        HushNet x = line(6, 1);
        for (int i = 0; i < 4; i++) x.agent(0, 0);
        read(x, codes("", "", ""));
        x.sight(0, 0, 0);
        x.strike(0);
        feed(x, "#");
        int[] all = {6, 5, 4, 3, 2, 1};
        for (int what = 0; what <= 5; what++) due("count(" + what + ")", x.count(what), all[what]);
    }

    private static void noSuchCount() {
        says("37: NONE for others");
        HushNet x = line(2, 1);
        for (int what : new int[] {-1, 6, 7, 256, MIN, MAX}) due("count(" + what + ")", x.count(what), -1);
    }
}
