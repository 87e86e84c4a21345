/** The sentences of part III and of the promises about a run that name an edge, each with a test of its own. */
public final class RunEdges extends Kit {
    private static final int[] NO_AGENTS_OF_TWO = {-1, 2, 8, MIN, MAX};
    private static final int[] NO_SECRETS = {-1, 8, 32, MIN, MAX};

    public static void main(String[] args) {
        fromFirstTickToLast();
        agentByAgent();
        atNoSpotNothing();
        tillOneTakesTime();
        fortyDeeds();
        fortyInEachTick();
        headsCount();
        furtherTurnsCount();
        goesSpotBySpot();
        goesNowhere();
        waits();
        waitIsTheLastDeed();
        tills();
        marksAndWipes();
        writes();
        leaves();
        takes();
        burns();
        onePaperOfASecret();
        tellsInFirstDeedsAlone();
        tellsWhomItMetAlone();
        tellsWhatItKnows();
        tellsOneThatIsThere();
        tellsInnermostOne();
        aborts();
        does();
        loops();
        ifsAndElses();
        testsOfMarksAndPapers();
        testsOfKnowing();
        testsOfWith();
        testsOfWatched();
        testsOfLate();
        meetsInEachTickOfItsWait();
        meetsWhoWaitsForIt();
        meetsNotItself();
        meetsNoSuchAgent();
        meetsAtThisSpot();
        meetsForNoTicks();
        meetsLastsToTheLastTick();
        goesOnWhenItsTurnComes();
        elseWithoutDeeds();
        learnsOnce();
        learnsFromThePaperLeftLast();
        runByNoSuchN();
        refusedRunChangesNothing();
        runAnew();
        whereNone();
        knowsNone();
        chainToItsEnd();
        chainNone();
        hasNone();
        leftBits();
        leftNone();
        metFirst();
        metNone();
        endedInItsTick();
        endedNone();
        deedsNone();
        sawsOnceATick();
        sawInPostsTicks();
        sawAtSpotsAlone();
        sawOrder();
        sawNone();
        fallsOfEachK();
        fallsOnlyWhomTheseMet();
        fallsOfFewer();
        fallsNone();
        fallenFirst();
        fallenNone();
        laterAgents();
        finish("RunEdges");
    }

    private static HushNet apart(int spots) {
        HushNet x = new HushNet();
        for (int i = 0; i < spots; i++) x.spot();
        return x;
    }

    private static int leftBy(String deeds) {
        return alone(deeds).left(0);
    }

    private static int endedBy(String deeds) {
        return alone(deeds).ended(0);
    }

    // ---- Ticks and turns ----
    private static void fromFirstTickToLast() {
        says("III: A RUN goes TICK by TICK from 0 to 95");
        due("left in tick 0", leftBy("mark 0; till 95; mark 1; wait 1; mark 2;"), 3);
        due("ended in tick 0", endedBy("mark 0;"), 0);
        due("ended in tick 95", endedBy("till 95; mark 0;"), 95);
        due("ended never", endedBy("till 95; wait 1;"), -1);
        HushNet x = alone("till 94; go 1; mark 0;");
        due("left", x.left(1), 1);
        due("where", x.where(0, 95), 1);
        x = alone("till 95; go 1; mark 0;");
        due("left", x.left(1), 0);
        due("where", x.where(0, 95), 0);
        due("deeds", x.deeds(0), 2);
    }

    private static void agentByAgent() {
        says("III: in each AGENT by AGENT");
        HushNet x = together("if mark 0 mark 2; end mark 1;", "if mark 1 mark 3; end mark 0;");
        due("left", x.left(0), 1 + 2 + 8);
    }

    private static void atNoSpotNothing() {
        says("III: (those at no SPOT do nothing)");
        HushNet x = play(line(2, 3), new int[] {0, 1}, new int[] {0, 0},
                codes("go 1; mark 0;", "till 2; if mark 0 mark 1; end till 3; if mark 0 mark 2; end"));
        due("left", x.left(1), 1 + 4);
        due("ended", x.ended(0), 3);
        due("deeds", x.deeds(0), 2);
        // On its way at the end it did no more deeds, whatever is there.
        x = play(line(2, 9), new int[] {0}, new int[] {0}, codes("till 87; go 1; mark 0;"));
        due("deeds", x.deeds(0), 2);
        due("left", x.left(1), 0);
        due("ended", x.ended(0), -1);
    }

    private static void tillOneTakesTime() {
        says("III: each goes on with its CODE's DEEDS till one takes time");
        HushNet x = together("mark 0; wait 1; mark 1;", "if mark 0 mark 2; end if mark 1 mark 3; end");
        due("left", x.left(0), 1 + 2 + 4);
        x = together("mark 0; go 1; mark 1; go 0; mark 1;", "if mark 0 mark 2; end if mark 1 mark 3; end");
        due("left", x.left(0), 1 + 2 + 4);
        due("left", x.left(1), 2);
    }

    private static void fortyDeeds() {
        says("III: or 40 DEEDS were done in this TICK");
        String spy = "if mark 1 mark 2; end";
        HushNet x = together(times("mark 0;", 39) + "mark 1;", spy);
        due("the 40th is done", x.left(0), 7);
        due("ended", x.ended(0), 0);
        due("deeds", x.deeds(0), 40);
        x = together(times("mark 0;", 40) + "mark 1;", spy);
        due("the 41st is not", x.left(0), 3);
        due("ended", x.ended(0), 1);
        due("deeds", x.deeds(0), 41);
        x = together(times("mark 0;", 40) + "mark 1;", "wait 1;" + spy);
        due("the 41st in the next one", x.left(0), 7);
    }

    private static void fortyInEachTick() {
        says("III: 40 DEEDS in this TICK (in the next one 40 more)");
        due("ended", endedBy("loop 80 end"), 1);
        due("ended", endedBy("loop 81 end"), 2);
        due("ended", endedBy(times("mark 0;", 39) + "wait 1;" + times("mark 0;", 40)), 1);
        due("ended", endedBy(times("mark 0;", 39) + "wait 1;" + times("mark 0;", 41)), 2);
        HushNet x = alone("loop 95 loop 95 end end");
        due("deeds", x.deeds(0), 96 * 40);
        due("ended", x.ended(0), -1);
        // Each agent has forty of its own.
        x = together("loop 40 end", "loop 40 end");
        due("ended", x.ended(0), 0);
        due("ended", x.ended(1), 0);
        // A go in the 40th deed.
        x = alone(times("mark 0;", 39) + "go 1; mark 1;");
        due("where", x.where(0, 1), 1);
        x = alone(times("mark 0;", 40) + "go 1; mark 1;");
        due("where", x.where(0, 1), 0);
        due("where", x.where(0, 2), 1);
    }

    private static void headsCount() {
        says("III: (loop, if, meet, do count when they are come to)");
        for (String deed : new String[] {"loop 0 end ", "loop 1 end ", "if late 95 end ", "if late 0 end ", "meet 0 for 0 end ", "do n; "}) {
            HushNet x = play(line(1, 1), new int[] {0, 0}, new int[] {0, 0}, "code n end code a " + times(deed, 40) + "end");
            due("deeds of 40 " + deed, x.deeds(1), 40);
            due("ended of 40 " + deed, x.ended(1), 0);
            x = play(line(1, 1), new int[] {0, 0}, new int[] {0, 0}, "code n end code a " + times(deed, 41) + "end");
            due("deeds of 41 " + deed, x.deeds(1), 41);
            due("ended of 41 " + deed, x.ended(1), 1);
        }
        // A meet counts once, however long it waits; so does the one that comes about.
        HushNet x = together("meet 1 for 9 mark 0; end", "wait 5; meet 0 for 9 mark 1; end");
        due("deeds", x.deeds(0), 2);
        due("deeds", x.deeds(1), 3);
        due("deeds", alone("meet 1 for 9 else mark 0; end").deeds(0), 2);
    }

    private static void furtherTurnsCount() {
        says("III: (a loop's further turns too)");
        int[] turns = {0, 1, 2, 3, 40, 41, 95};
        int[] deeds = {1, 1, 2, 3, 40, 41, 95};
        for (int i = 0; i < turns.length; i++) {
            HushNet x = alone("loop " + turns[i] + " end");
            due("deeds of " + turns[i] + " turns", x.deeds(0), deeds[i]);
            due("ended of " + turns[i] + " turns", x.ended(0), (deeds[i] - 1) / 40);
        }
        HushNet x = alone("loop 3 mark 0; end");
        due("deeds", x.deeds(0), 6);
        x = alone("loop 20 mark 0; end");
        due("deeds", x.deeds(0), 40);
        due("ended", x.ended(0), 0);
        x = alone("loop 20 mark 0; end mark 1;");
        due("ended", x.ended(0), 1);
        x = alone("loop 2 loop 2 mark 0; end end");
        due("deeds", x.deeds(0), 2 + 2 * (2 + 2));
    }

    // ---- Going and waiting ----
    private static void goesSpotBySpot() {
        says("III: SPOT by SPOT (it is at each of these in the TICK in which it comes there, and walks on)");
        HushNet x = play(line(4, 2), new int[] {0, 1}, new int[] {0, 0}, codes("go 3; mark 0;", "till 2; if with 0 mark 1; end till 3; if with 0 mark 2; end"));
        int[] row = {0, -1, 1, -1, 2, -1, 3, 3};
        for (int t = 0; t < row.length; t++) due("where " + t, x.where(0, t), row[t]);
        due("left", x.left(1), 2);
        due("left", x.left(3), 1);
        due("ended", x.ended(0), 6);
        due("deeds", x.deeds(0), 2);
        x.post(0, 2, 0, 96);
        x.run(1);
        due("saws", x.saws(), 1);
        due("saw", sawOf(x, 0), 4002);
    }

    private static void goesNowhere() {
        says("III: no way, no such SPOT, or it is there: nothing");
        HushNet x = play(apart(2), new int[] {0}, new int[] {0}, codes("go 1; mark 0;"));
        due("left by no way", x.left(0), 1);
        due("ended by no way", x.ended(0), 0);
        due("deeds by no way", x.deeds(0), 2);
        for (int s = 2; s <= 9; s++) {
            x = alone("go " + s + "; mark 0;");
            due("left by no such spot", x.left(0), 1);
            due("ended by no such spot", x.ended(0), 0);
            due("where by no such spot", x.where(0, 1), 0);
        }
        x = alone("go 0; mark 0;");
        due("left by it is there", x.left(0), 1);
        due("ended by it is there", x.ended(0), 0);
        x = line(10, 1);
        play(x, new int[] {8}, new int[] {0}, codes("go 9;"));
        due("where", x.where(0, 1), 9);
    }

    private static void waits() {
        says("III: wait k: the rest of its DEEDS k TICKS later");
        for (int k : new int[] {0, 1, 2, 94, 95}) {
            HushNet x = alone("wait " + k + "; mark 0; go 1;");
            due("left", x.left(0), 1);
            due("where then", x.where(0, k), 0);
            if (k < 95) due("where behind it", x.where(0, k + 1), 1);
        }
        due("left", leftBy("mark 1; wait 95; mark 0;"), 3);
        due("left", leftBy("mark 1; wait 1; wait 95; mark 0;"), 2);
        // 0: in this tick.
        HushNet x = together("wait 0; mark 0;", "if mark 0 mark 1; end");
        due("left", x.left(0), 3);
        x = together("wait 1; mark 0;", "if mark 0 mark 1; end");
        due("left", x.left(0), 1);
    }

    private static void waitIsTheLastDeed() {
        says("III: (its CODE is done then, if none is left)");
        due("ended", endedBy("wait 0;"), 0);
        due("ended", endedBy("wait 1;"), 1);
        due("ended", endedBy("wait 95;"), 95);
        due("ended", endedBy("wait 94; wait 1;"), 95);
        due("ended", endedBy("wait 95; wait 1;"), -1);
        due("ended", endedBy("loop 2 if late 0 wait 3; end end"), 6);
        due("ended", endedBy("go 1;"), 1);
    }

    private static void tills() {
        says("III: till t: in the TICK t, if that is later");
        due("ended", endedBy("till 0;"), 0);
        due("ended", endedBy("till 1;"), 1);
        due("ended", endedBy("till 95;"), 95);
        due("ended", endedBy("wait 7; till 7;"), 7);
        due("ended", endedBy("wait 7; till 6;"), 7);
        due("ended", endedBy("wait 7; till 0; wait 1;"), 8);
        due("ended", endedBy("wait 7; till 8;"), 8);
    }

    // ---- Marks and papers ----
    private static void marksAndWipes() {
        says("III: mark i, wipe i: MARK i is on its SPOT, is not");
        for (int i = 0; i < 4; i++) {
            due("left", leftBy("mark " + i + ";"), 1 << i);
            due("left", leftBy("mark " + i + "; mark " + i + ";"), 1 << i);
            due("left", leftBy("mark " + i + "; mark " + i + "; wipe " + i + ";"), 0);
            due("left", leftBy("wipe " + i + ";"), 0);
            due("left", leftBy("mark 0; mark 1; mark 2; mark 3; wipe " + i + "; wipe " + i + ";"), 15 - (1 << i));
        }
        for (String deed : new String[] {"mark 0;", "wipe 0;", "mark 0; wipe 0;"}) due("has a paper by a mark", alone(deed).has(0, 0), 0);
        HushNet x = alone("mark 0; go 1; wipe 0; mark 1;");
        due("left", x.left(0), 1);
        due("left", x.left(1), 2);
    }

    private static void writes() {
        says("III: write i: if it KNOWS i, it HAS a PAPER of i");
        HushNet x = alone("write 0; write 0; write 1;");
        due("has", x.has(0, 0), 1);
        due("has", x.has(0, 1), 0);
        due("deeds", x.deeds(0), 3);
        x = alone("write 1;");
        for (int s = 0; s < 8; s++) due("has none that it does not know", x.has(0, s), 0);
        x = together("meet 1 for 1 tell 7; end", "write 7; if has 7 mark 0; end meet 0 for 1 wait 1; write 7; end");
        due("left", x.left(0), 0);
        due("has", x.has(1, 7), 1);
    }

    private static void leaves() {
        says("III: leave i: if it HAS one, it has it no more, and one lies at its SPOT");
        HushNet x = alone("leave 0; if paper 0 mark 0; end write 0; leave 0; if has 0 mark 1; end leave 0;");
        due("left", x.left(0), 16);
        due("has", x.has(0, 0), 0);
        x = alone("write 0; go 1; leave 0;");
        due("left", x.left(0), 0);
        due("left", x.left(1), 16);
        x = together("write 7; write 3; leave 7;");
        due("left", x.left(0), 1 << 11);
        due("has", x.has(0, 3), 1);
        due("has", x.has(0, 7), 0);
    }

    private static void takes() {
        says("III: take i: if one lies there, it lies there no more; it HAS one, and KNOWS i");
        HushNet x = together("write 3; leave 3;", "take 2; take 3; take 3; if knows 2 mark 0; end if knows 3 mark 1; end", "take 3; if knows 3 mark 2; end");
        due("left", x.left(0), 2);
        due("has", x.has(1, 3), 1);
        due("has", x.has(1, 2), 0);
        due("has", x.has(2, 3), 0);
        due("knows", x.knows(1, 2), -1);
        due("knows", x.knows(2, 3), -1);
        due("run", x.run(0), 1);
        // Those of other secrets that it has it keeps.
        x = together("write 3; leave 3; write 0; write 7; take 3;");
        for (int s = 0; s < 8; s++) due("has", x.has(0, s), s == 0 || s == 3 || s == 7 ? 1 : 0);
        // Not one that lies elsewhere.
        x = alone("write 0; leave 0; go 1; take 0;");
        due("left", x.left(0), 16);
        due("has", x.has(0, 0), 0);
    }

    private static void burns() {
        says("III: burn i: it has none");
        HushNet x = together("burn 1; write 1; write 2; burn 1; burn 1; write 4; leave 4; burn 4;");
        due("has", x.has(0, 1), 0);
        due("has", x.has(0, 2), 1);
        due("left", x.left(0), 16 << 4);
        due("knows", x.knows(0, 1), 0);
    }

    private static void onePaperOfASecret() {
        says("III: (One of a SECRET at most is had, lies at a SPOT.)");
        HushNet x = alone("write 0; write 0; leave 0; if has 0 mark 0; end leave 0; take 0; take 0; if paper 0 mark 1; end leave 0;");
        due("left", x.left(0), 16);
        // Two are left there, one lies there.
        x = together("write 5; leave 5; write 5; leave 5; take 5; take 5; leave 5;", "take 5; if paper 5 mark 0; end");
        due("left", x.left(0), 0);
        due("has", x.has(1, 5), 1);
        // Who has one and takes one has one.
        x = together("write 5; leave 5; write 5; take 5; leave 5; if has 5 mark 0; end");
        due("left", x.left(0), 16 << 5);
    }

    // ---- Telling ----
    private static void tellsInFirstDeedsAlone() {
        says("III: tell i: within the first DEEDS of a meet that came about; nothing elsewhere");
        HushNet x = together("tell 0; meet 1 for 9 tell 1; else tell 2; end tell 3; meet 1 for 1 tell 4; else tell 5; end tell 6;", "meet 0 for 9 end");
        for (int s = 0; s < 8; s++) due("knows " + s, x.knows(1, s), s == 1 ? 1 : -1);
        due("run", x.run(0), 1);
        due("deeds", x.deeds(0), 7);
        // The one with the least number is not told elsewhere, either; and no other deed tells.
        x = play(line(1, 1), new int[] {0, 0}, new int[] {0, 255}, codes("meet 1 for 9 end", "tell 0; meet 0 for 9 burn 0; write 1; leave 1; take 1; mark 2; wipe 2; end tell 3; meet 0 for 1 else tell 4; end"));
        due("run", x.run(0), 0);
        due("met", x.met(0, 1), 0);
        // Within loops, ifs and codes within the first deeds; not within those of else, or behind.
        x = play(line(1, 1), new int[] {0, 0, 0}, new int[] {0, 255, 0}, codes("tell 0;", "meet 2 for 9 do a; loop 2 tell 1; if late 0 tell 2; end end end loop 2 tell 3; end do a;",
                "meet 1 for 9 end wait 1;"));
        due("run", x.run(0), 3);
        for (int s = 0; s < 4; s++) due("knows " + s, x.knows(2, s), s < 3 ? 1 : -1);
        x = together("loop 2 loop 2 tell 0; end meet 1 for 2 loop 1 end else loop 1 tell 1; end end tell 2; end", "loop 9 meet 0 for 0 end wait 1; end");
        due("met", x.met(0, 1), 0);
        due("run", x.run(0), 0);
    }

    private static void tellsWhomItMetAlone() {
        says("III: that one KNOWS i (the one met, no other one)");
        HushNet x = together("meet 2 for 9 tell 0; end", "wait 3;", "meet 0 for 9 end");
        due("knows", x.knows(1, 0), -1);
        due("knows", x.knows(2, 0), 1);
    }

    private static void tellsWhatItKnows() {
        says("III: tell i: if it KNOWS i");
        HushNet x = together("meet 1 for 9 end", "meet 0 for 9 tell 0; end");
        due("knows", x.knows(0, 0), 0);
        due("run", x.run(0), 0);
        // What it learned in this tick it tells.
        x = together("meet 1 for 9 tell 0; end", "meet 0 for 9 end meet 2 for 9 tell 0; end", "wait 1; meet 1 for 9 end");
        due("knows", x.knows(1, 0), 1);
        due("knows", x.knows(2, 0), 2);
    }

    private static void tellsOneThatIsThere() {
        says("III: and the one met is at this SPOT in this TICK");
        String leaver = "meet 0 for 9 go 1; go 0; end";
        due("knows one that left", together("meet 1 for 9 tell 0; end", leaver).knows(1, 0), -1);
        due("knows one that came back", together("meet 1 for 9 wait 1; tell 0; end", leaver).knows(1, 0), 2);
        HushNet x = play(line(2, 1), new int[] {0, 0}, new int[] {0, 1}, codes("wait 1; meet 1 for 9 go 1; end", "meet 0 for 9 tell 0; end"));
        due("knows one that begins its way in this tick", x.knows(0, 0), 1);
        due("where", x.where(0, 2), 1);
        // The teller's spot counts, not where they met.
        x = together("meet 1 for 9 go 1; tell 0; end", "meet 0 for 9 go 1; end");
        due("knows at the other spot", x.knows(1, 0), 2);
        x = together("meet 1 for 9 go 1; tell 0; end", "meet 0 for 9 end");
        due("knows at the spot left", x.knows(1, 0), -1);
    }

    private static void tellsInnermostOne() {
        says("III: (the innermost such meet counts)");
        HushNet x = together("meet 1 for 9 meet 2 for 9 tell 0; end tell 1; end", "meet 0 for 9 end", "meet 0 for 9 end");
        due("knows", x.knows(2, 0), 1);
        due("knows", x.knows(1, 0), -1);
        due("knows", x.knows(1, 1), 1);
        due("knows", x.knows(2, 1), -1);
        // A meet that did not come about is no such meet.
        x = together("meet 1 for 9 meet 2 for 0 else tell 0; end end", "meet 0 for 9 end", "wait 95;");
        due("knows", x.knows(1, 0), 1);
        due("knows", x.knows(2, 0), -1);
    }

    // ---- Codes, loops, tests ----
    private static void aborts() {
        says("III: abort: its CODE is done");
        HushNet x = alone("mark 0; abort; mark 1;");
        due("left", x.left(0), 1);
        due("ended", x.ended(0), 0);
        due("deeds", x.deeds(0), 2);
        x = alone("loop 9 wait 2; abort; mark 1; end mark 2;");
        due("left", x.left(0), 0);
        due("ended", x.ended(0), 2);
        due("deeds", x.deeds(0), 3);
        x = play(line(1, 1), new int[] {0, 0}, new int[] {0, 0}, "code n abort; end code a wait 1; do n; mark 1; end");
        due("left", x.left(0), 0);
        due("ended", x.ended(1), 1);
        // It does nothing more for the rest of the run; the next one begins anew.
        x = together("meet 1 for 9 abort; end mark 0;", "meet 0 for 9 wait 3; end mark 1;");
        due("left", x.left(0), 2);
        x.run(0);
        due("left", x.left(0), 2);
        due("met", x.met(0, 1), 0);
    }

    private static void does() {
        says("III: do: that code's DEEDS");
        HushNet x = line(1, 1);
        x.agent(0, 0);
        StringBuilder deep = new StringBuilder("code a mark 0; end ");
        for (int c = 1; c < 8; c++) deep.append("code ").append((char) ('a' + c)).append(" do ").append((char) ('a' + c - 1)).append("; end ");
        due("read", read(x, deep.toString()), 0);
        x.give(0, 7);
        x.run(0);
        due("left", x.left(0), 1);
        due("deeds", x.deeds(0), 8);
        due("ended", x.ended(0), 0);
        // None, twice the same, and the rest behind it.
        x = play(line(1, 1), new int[] {0, 0, 0}, new int[] {0, 0, 0},
                "code n end code w wait 3; end code a do n; do w; do w; mark 1; end");
        due("left", x.left(0), 2);
        due("ended", x.ended(2), 6);
        due("deeds", x.deeds(2), 3 + 2 + 1);
    }

    private static void loops() {
        says("III: loop k: its DEEDS k times");
        for (int k : new int[] {0, 1, 2, 95}) due("ended", endedBy("loop " + k + " wait 1; end"), k);
        due("ended", endedBy("loop 95 wait 1; end wait 1;"), -1);
        due("left", leftBy("loop 0 mark 0; end mark 1;"), 2);
        due("ended", endedBy("loop 3 loop 4 wait 1; end wait 2; end"), 18);
        due("ended", endedBy("loop 3 loop 0 wait 1; end wait 2; end"), 6);
    }

    private static void ifsAndElses() {
        says("III: if: TEST (its first DEEDS, else those of else; none without)");
        due("left", leftBy("if late 0 mark 0; else mark 1; end mark 2;"), 1 + 4);
        due("left", leftBy("if late 9 mark 0; else mark 1; end mark 2;"), 2 + 4);
        due("left", leftBy("if late 0 mark 0; end mark 2;"), 1 + 4);
        due("left", leftBy("if late 9 mark 0; end mark 2;"), 4);
        due("left", leftBy("if late 0 else mark 1; end mark 2;"), 4);
        due("left", leftBy("if late 0 if late 9 mark 0; else mark 3; end else mark 1; end mark 2;"), 8 + 4);
        // What the test held for is asked once.
        due("left", leftBy("if not mark 0 mark 0; wait 1; mark 1; else mark 2; end"), 3);
        due("ended", endedBy("if late 0 wait 2; else wait 5; end wait 1;"), 3);
        due("ended", endedBy("loop 3 if late 2 wait 2; else wait 1; end end"), 4);
    }

    private static void testsOfMarksAndPapers() {
        says("III: mark i: on its SPOT; paper i: one lies at its SPOT");
        due("left", leftBy("if mark 3 mark 0; end mark 3; if mark 3 mark 1; end if mark 2 mark 0; end"), 2 + 8);
        due("left", leftBy("if mark 0 mark 2; else mark 3; end"), 8);
        HushNet x = alone("mark 0; write 0; leave 0; go 1; if mark 0 mark 1; end if paper 0 mark 2; end");
        due("left", x.left(1), 0);
        due("left", leftBy("if paper 0 mark 0; end write 0; if paper 0 mark 1; end leave 0; if paper 0 mark 2; end take 0; if paper 0 mark 3; end"), 4);
    }

    private static void testsOfKnowing() {
        says("III: knows i, has i");
        HushNet x = play(line(1, 1), new int[] {0}, new int[] {128}, codes("if knows 7 mark 0; end if knows 0 mark 1; end if has 7 mark 2; end write 7; if has 7 mark 3; end"));
        due("left", x.left(0), 1 + 8);
        x = play(line(1, 1), new int[] {0}, new int[] {128}, codes("write 7; burn 7; if has 7 mark 0; end if not knows 7 mark 1; end if not not has 7 mark 2; end"));
        due("left", x.left(0), 0);
    }

    private static void testsOfWith() {
        says("III: with a: AGENT a is at its SPOT in this TICK");
        // It goes away in this tick, is gone, and comes back.
        HushNet x = together("go 1; go 0;", "if with 0 mark 0; end wait 1; if with 0 mark 1; end wait 1; if with 0 mark 2; end");
        due("left", x.left(0), 1 + 4);
        // Its turn in this tick may be still to come.
        x = together("wait 1; if with 1 mark 0; end wait 1; if with 1 mark 1; end", "go 1; go 0;");
        due("left", x.left(0), 2);
        for (int a = 1; a < 8; a++) due("left with no such agent", leftBy("if with " + a + " mark 0; end"), 0);
        // On a way it is at no spot.
        x = play(line(2, 3), new int[] {0, 1, 0}, new int[] {0, 0, 0},
                codes("go 1;", "till 2; if with 0 mark 0; end till 3; if with 0 mark 1; end", "till 2; if with 0 mark 0; end till 3; if with 0 mark 1; end"));
        due("left", x.left(1), 2);
        due("left", x.left(0), 0);
    }

    private static void testsOfWatched() {
        says("III: watched: a WATCHER is POSTED there in this TICK");
        HushNet x = alone("till 4; if watched mark 0; end till 5; if watched mark 1; end till 7; if watched mark 2; end till 8; if watched mark 3; end");
        due("left", x.left(0), 0);
        x.post(0, 0, 5, 8);
        x.post(1, 1, 0, 96);
        x.run(0);
        due("left by none", x.left(0), 0);
        x.run(1);
        due("left by 5 .. 7", x.left(0), 2 + 4);
        x.run(2);
        due("left", x.left(0), 2 + 4);
        x.strike(0);
        x.run(3);
        due("left by a struck one", x.left(0), 0);
    }

    private static void testsOfLate() {
        says("III: late t: it is TICK t, or later");
        due("left", leftBy("if late 0 mark 0; end if late 1 mark 1; end till 95; if late 95 mark 2; end if late 94 mark 3; end"), 1 + 4 + 8);
        due("left", leftBy("till 94; if late 95 mark 0; end if late 94 mark 1; end"), 2);
    }

    // ---- Meeting ----
    private static void meetsInEachTickOfItsWait() {
        says("III: meet a for k: it waits from this TICK on; in each TICK of k more");
        for (int w = 0; w <= 4; w++) {
            // The one that waits has its turn first: in the tick 3 its wait is over ahead of the other one's turn.
            HushNet x = together("meet 1 for 3 mark 0; else mark 1; end", "wait " + w + "; meet 0 for 0 mark 2; else mark 3; end");
            due("met", x.met(0, 1), w < 3 ? w : -1);
            due("left", x.left(0), w < 3 ? 5 : 10);
            due("ended", x.ended(0), w < 3 ? w + 1 : 3);
            due("ended", x.ended(1), w);
            // It has its turn last: in the tick 3 it still waits at the other one's turn.
            if (w == 0) continue;
            x = together("wait " + w + "; meet 1 for 0 mark 2; else mark 3; end", "meet 0 for 3 mark 0; else mark 1; end");
            due("met", x.met(0, 1), w <= 3 ? w : -1);
            due("left", x.left(0), w <= 3 ? 5 : 10);
            due("ended", x.ended(1), w <= 3 ? w : 3);
        }
    }

    private static void meetsWhoWaitsForIt() {
        says("III: if AGENT a waits for it in a meet");
        HushNet x = together("meet 2 for 3 mark 0; end", "meet 0 for 3 mark 1; end", "wait 9;");
        due("left", x.left(0), 0);
        due("met", x.met(0, 1), -1);
        x = together("meet 1 for 9 mark 0; end", "wait 9; mark 1;");
        due("left", x.left(0), 2);
        due("met", x.met(0, 1), -1);
        // One that met and has not gone on yet waits for nobody.
        x = together("meet 1 for 9 mark 0; end", "meet 0 for 9 end meet 0 for 0 mark 1; else mark 2; end");
        due("left", x.left(0), 1 + 4);
        // One whose wait is over waits for nobody.
        x = together("meet 1 for 2 end wait 9;", "wait 3; meet 0 for 3 mark 1; end");
        due("left", x.left(0), 0);
    }

    private static void meetsNotItself() {
        says("III: AGENT a (not itself)");
        for (int k : new int[] {0, 1, 95}) {
            HushNet x = together("meet 0 for " + k + " mark 0; else mark 1; end");
            due("left", x.left(0), 2);
            due("ended", x.ended(0), k);
            due("met", x.met(0, 0), -1);
        }
    }

    private static void meetsNoSuchAgent() {
        says("III: meet a (no such AGENT)");
        for (int a = 1; a < 8; a++) {
            HushNet x = alone("meet " + a + " for 2 mark 0; else mark 1; end");
            due("left", x.left(0), 2);
            due("ended", x.ended(0), 2);
            due("met", x.met(0, a), -1);
        }
    }

    private static void meetsAtThisSpot() {
        says("III: if AGENT a is at this SPOT, too");
        HushNet x = play(line(2, 1), new int[] {0, 1}, new int[] {0, 0}, codes("meet 1 for 9 mark 0; else mark 1; end", "meet 0 for 2 end go 0; meet 0 for 9 mark 2; end"));
        due("met", x.met(0, 1), 3);
        due("left", x.left(0), 1 + 4);
        // Coming by is not being in a meet.
        x = play(line(3, 1), new int[] {0, 1}, new int[] {0, 0}, codes("go 2; meet 1 for 9 mark 0; end", "meet 0 for 9 mark 0; end"));
        due("met", x.met(0, 1), -1);
    }

    private static void meetsForNoTicks() {
        says("III: meet a for 0");
        HushNet x = together("meet 1 for 0 mark 0; else mark 1; end", "meet 0 for 0 mark 2; else mark 3; end");
        due("left", x.left(0), 2 + 8);
        due("met", x.met(0, 1), -1);
        due("ended", x.ended(0), 0);
        x = together("meet 1 for 1 mark 0; else mark 1; end", "meet 0 for 0 mark 2; else mark 3; end");
        due("left", x.left(0), 1 + 4);
        due("met", x.met(0, 1), 0);
    }

    private static void meetsLastsToTheLastTick() {
        says("III: Else, k TICKS after it began, those of else (behind the last TICK never)");
        HushNet x = alone("meet 1 for 95 else mark 0; end");
        due("left", x.left(0), 1);
        due("ended", x.ended(0), 95);
        x = alone("wait 1; meet 1 for 95 else mark 0; end");
        due("left", x.left(0), 0);
        due("ended", x.ended(0), -1);
        x = together("till 95; meet 1 for 9 mark 0; end", "till 95; meet 0 for 9 mark 1; end");
        due("met", x.met(0, 1), 95);
        due("left", x.left(0), 2);
        due("ended", x.ended(0), -1);
        due("ended", x.ended(1), 95);
    }

    private static void goesOnWhenItsTurnComes() {
        says("III: (the other one goes on when its turn comes, in this TICK, or, if it had that already, in the next one)");
        HushNet x = together("meet 1 for 9 end", "wait 5; meet 0 for 9 end");
        due("ended", x.ended(0), 6);
        due("ended", x.ended(1), 5);
        x = together("wait 5; meet 1 for 9 end", "meet 0 for 9 end");
        due("ended", x.ended(0), 5);
        due("ended", x.ended(1), 5);
    }

    private static void elseWithoutDeeds() {
        says("III: those of else (none without), from that TICK on");
        HushNet x = alone("meet 1 for 4 mark 0; end mark 1; wait 1; mark 2;");
        due("left", x.left(0), 2 + 4);
        due("ended", x.ended(0), 5);
        x = alone("meet 1 for 4 mark 0; else wait 2; mark 3; end mark 1;");
        due("left", x.left(0), 2 + 8);
        due("ended", x.ended(0), 6);
        // First deeds without any, and nothing of else behind them.
        x = together("meet 1 for 4 else mark 0; end mark 1;", "meet 0 for 4 end");
        due("left", x.left(0), 2);
    }

    // ---- Learning ----
    private static void learnsOnce() {
        says("III: An AGENT LEARNS a SECRET that it did not KNOW");
        HushNet x = together("meet 1 for 9 tell 0; tell 0; write 0; leave 0; end", "meet 0 for 9 wait 2; take 0; end");
        due("run", x.run(0), 1);
        due("knows", x.knows(1, 0), 1);
        due("chain", x.chain(1, 0, 1), 0);
        // Both know it already.
        x = play(line(1, 1), new int[] {0, 0}, new int[] {1, 1}, codes("meet 1 for 9 tell 0; write 0; leave 0; end", "meet 0 for 9 wait 2; take 0; end"));
        due("run", x.run(0), 0);
        due("knows", x.knows(1, 0), 0);
        due("chain", x.chain(1, 0, 1), -1);
        // From the one that told it first.
        x = play(line(1, 1), new int[] {0, 0, 0}, new int[] {1, 0, 1}, codes("wait 5; meet 1 for 9 tell 0; end", "meet 2 for 9 end meet 0 for 9 end", "meet 1 for 9 tell 0; end"));
        due("run", x.run(0), 1);
        due("chain", x.chain(1, 0, 1), 2);
    }

    private static void learnsFromThePaperLeftLast() {
        says("III: by a PAPER (who left that there; a PAPER that lies there is the last one left)");
        HushNet x = play(line(1, 1), new int[] {0, 0, 0}, new int[] {1, 1, 0}, codes("write 0; leave 0;", "write 0; leave 0;", "take 0;"));
        due("chain", x.chain(2, 0, 1), 1);
        x = play(line(1, 1), new int[] {0, 0, 0}, new int[] {1, 1, 0}, codes("wait 1; write 0; leave 0;", "write 0; leave 0;", "wait 1; take 0;"));
        due("chain", x.chain(2, 0, 1), 0);
        // Who took it and left it again, not who wrote it.
        x = together("write 0; leave 0;", "take 0; leave 0;", "take 0;");
        due("chain", x.chain(2, 0, 1), 1);
        due("chain", x.chain(2, 0, 2), 0);
        due("chain", x.chain(2, 0, 3), -1);
    }

    // ---- Promise 15 ----
    private static void runByNoSuchN() {
        says("15: NONE: no such n");
        HushNet x = line(1, 1);
        for (int n : new int[] {-1, 1, MIN, MAX}) due("run(" + n + ")", x.run(n), -1);
        due("run", x.run(0), 0);
        x.agent(0, 0);
        x.sight(0, 0, 0);
        x.strike(0);
        for (int n : new int[] {-1, 3, 150, MIN, MAX}) due("run(" + n + ")", x.run(n), -1);
        for (int n = 0; n <= 2; n++) due("run(" + n + ")", x.run(n), 0);
    }

    private static void refusedRunChangesNothing() {
        says("15: NONE, and nothing happens");
        HushNet x = together("meet 1 for 9 tell 0; end mark 2;", "meet 0 for 9 end write 0;");
        x.give(0, -1);
        x.post(0, 0, 0, 1);
        due("run", x.run(2), -1);
        due("run", x.run(-1), -1);
        due("knows", x.knows(1, 0), 1);
        due("left", x.left(0), 4);
        due("met", x.met(0, 1), 0);
        due("deeds", x.deeds(0), 3);
        due("saws", x.saws(), 0);
        x = line(1, 1);
        due("run", x.run(1), -1);
        due("saws", x.saws(), -1);
        due("left", x.left(0), -1);
    }

    private static void runAnew() {
        says("Of the latest RUN (nothing of an earlier one)");
        HushNet x = together("meet 1 for 9 tell 0; end mark 2; write 0; leave 0; write 1; go 1;", "meet 0 for 9 end");
        x.post(0, 0, 0, 1);
        due("run", x.run(1), 1);
        due("saws", x.saws(), 2);
        x.give(0, -1);
        x.give(1, -1);
        due("run", x.run(0), 0);
        due("where", x.where(0, 95), 0);
        due("knows", x.knows(1, 0), -1);
        due("chain", x.chain(1, 0, 0), -1);
        due("has", x.has(0, 1), 0);
        due("left", x.left(0), 0);
        due("met", x.met(0, 1), -1);
        due("ended", x.ended(0), 0);
        due("deeds", x.deeds(0), 0);
        due("saws", x.saws(), 0);
        due("falls", x.falls(1), 1);
        // Where a code was broken off in the run ahead, by abort or by the last tick, nothing stands open in the next one.
        for (String deeds : new String[] {"loop 9 loop 9 abort; end end", "loop 9 loop 9 wait 90; end end", "loop 5 go 1; go 0; wait 60; end", "meet 1 for 95 end wait 9;"}) {
            x = play(line(2, 1), new int[] {0, 0}, new int[] {0, 0}, codes(deeds, "mark 0; wait 2;"));
            x.give(0, 1);
            x.give(1, -1);
            x.run(0);
            due("ended", x.ended(0), 2);
            due("deeds", x.deeds(0), 2);
            due("left", x.left(0), 1);
            due("where", x.where(0, 95), 0);
        }
        // Nor of a meet that came about.
        x = together("meet 1 for 9 abort; end", "meet 0 for 9 end", "tell 0; mark 1;");
        x.give(0, 2);
        x.run(0);
        due("ended", x.ended(0), 0);
        due("deeds", x.deeds(0), 2);
        due("knows", x.knows(1, 0), -1);
    }

    // ---- Promises 16 to 23 ----
    private static HushNet storyOfTwo() {
        return play(line(2, 3), new int[] {0, 0}, new int[] {129, 0}, codes("meet 1 for 9 tell 0; tell 7; end write 7; go 1;", "meet 0 for 9 end wait 3;"));
    }

    private static void whereNone() {
        says("16: NONE: at none, no such ones, no RUN");
        HushNet x = storyOfTwo();
        due("where", x.where(0, 1), 0);
        due("where on its way", x.where(0, 2), -1);
        due("where on its way", x.where(0, 3), -1);
        due("where", x.where(0, 4), 1);
        due("where in the first tick", x.where(1, 0), 0);
        due("where in the last tick", x.where(1, 95), 0);
        for (int t : new int[] {-1, 96, 97, MIN, MAX}) due("where(1, " + t + ")", x.where(1, t), -1);
        for (int a : NO_AGENTS_OF_TWO) due("where(" + a + ", 0)", x.where(a, 0), -1);
    }

    private static void knowsNone() {
        says("17: NONE: never, no such ones");
        HushNet x = storyOfTwo();
        due("knows", x.knows(0, 7), 0);
        due("knows", x.knows(1, 7), 1);
        due("knows", x.knows(1, 0), 1);
        due("knows never", x.knows(1, 1), -1);
        for (int s : NO_SECRETS) due("knows(0, " + s + ")", x.knows(0, s), -1);
        for (int a : NO_AGENTS_OF_TWO) due("knows(" + a + ", 0)", x.knows(a, 0), -1);
    }

    /** Agent 0 tells the next one, that one the next one, and so on: eight agents. */
    private static HushNet relay() {
        String[] deeds = new String[8];
        for (int a = 0; a < 8; a++) {
            deeds[a] = (a > 0 ? "meet " + (a - 1) + " for 95 end " : "") + (a < 7 ? "meet " + (a + 1) + " for 95 tell 0; end" : "");
        }
        return together(deeds);
    }

    private static void chainToItsEnd() {
        says("18: the i-th on the way (0 itself, then from whom it LEARNED it, and so on)");
        HushNet x = relay();
        for (int i = 0; i < 8; i++) due("chain", x.chain(7, 0, i), 7 - i);
        due("chain", x.chain(7, 0, 8), -1);
        for (int a = 0; a < 8; a++) {
            due("chain", x.chain(a, 0, a), 0);
            due("chain", x.chain(a, 0, a + 1), -1);
        }
    }

    private static void chainNone() {
        says("18: NONE: not so many, it never did, no such ones");
        HushNet x = storyOfTwo();
        due("chain itself", x.chain(0, 0, 0), 0);
        due("chain", x.chain(1, 7, 1), 0);
        for (int i : new int[] {2, 3, 8, MAX, -1, -2, MIN}) due("chain(1, 7, " + i + ")", x.chain(1, 7, i), -1);
        for (int i = 0; i < 3; i++) due("chain never", x.chain(1, 1, i), -1);
        for (int s : NO_SECRETS) due("chain(0, " + s + ", 0)", x.chain(0, s, 0), -1);
        for (int a : NO_AGENTS_OF_TWO) due("chain(" + a + ", 0, 0)", x.chain(a, 0, 0), -1);
    }

    private static void hasNone() {
        says("19: 1 if an AGENT HAS a PAPER at its end, else 0; NONE: no such ones");
        HushNet x = storyOfTwo();
        for (int s = 0; s < 8; s++) due("has", x.has(0, s), s == 7 ? 1 : 0);
        for (int s : NO_SECRETS) due("has(0, " + s + ")", x.has(0, s), -1);
        for (int a : NO_AGENTS_OF_TWO) due("has(" + a + ", 7)", x.has(a, 7), -1);
    }

    private static void leftBits() {
        says("20: MARKS (bits 0 .. 3), PAPERS (bits 4 .. 11)");
        StringBuilder all = new StringBuilder();
        for (int s = 0; s < 8; s++) {
            due("left", together("write " + s + "; leave " + s + ";").left(0), 16 << s);
            all.append("write ").append(s).append("; leave ").append(s).append("; ");
        }
        for (int m = 0; m < 4; m++) {
            due("left", together("mark " + m + ";").left(0), 1 << m);
            all.append("mark ").append(m).append("; ");
        }
        due("left", together(all.toString()).left(0), 4095);
        due("left", together("").left(0), 0);
    }

    private static void leftNone() {
        says("20: NONE: no such SPOT");
        HushNet x = storyOfTwo();
        due("left", x.left(1), 0);
        for (int s : new int[] {-1, 2, 10, MIN, MAX}) due("left(" + s + ")", x.left(s), -1);
        x = apart(10);
        x.run(0);
        due("left", x.left(9), 0);
        due("left", x.left(10), -1);
    }

    private static void metFirst() {
        says("21: the first TICK in which two AGENTS met");
        HushNet x = together("wait 2; meet 1 for 9 end wait 2; meet 1 for 9 end", "wait 2; meet 0 for 9 end wait 2; meet 0 for 9 end");
        due("met", x.met(0, 1), 2);
        due("met", x.met(1, 0), 2);
        due("met in tick 0", together("meet 1 for 1 end", "meet 0 for 1 end").met(1, 0), 0);
    }

    private static void metNone() {
        says("21: NONE: never, no such ones, one and the same");
        HushNet x = together("meet 1 for 9 end", "meet 0 for 9 end", "wait 1;");
        due("met never", x.met(0, 2), -1);
        due("met never", x.met(2, 1), -1);
        for (int a = 0; a < 3; a++) due("met itself", x.met(a, a), -1);
        for (int a : new int[] {-1, 3, 8, MIN, MAX}) {
            due("met(0, " + a + ")", x.met(0, a), -1);
            due("met(" + a + ", 0)", x.met(a, 0), -1);
            due("met(" + a + ", " + a + ")", x.met(a, a), -1);
        }
    }

    private static void endedInItsTick() {
        says("22: the TICK in which an AGENT's CODE was done (0 without one)");
        HushNet x = together("", "wait 95;");
        due("ended without deeds", x.ended(0), 0);
        due("ended in the last tick", x.ended(1), 95);
        x.agent(0, 0);
        x.run(0);
        due("ended without a code", x.ended(2), 0);
        due("deeds without a code", x.deeds(2), 0);
        // The 40th deed is the last one.
        due("ended", endedBy(times("mark 0;", 40)), 0);
        due("ended", endedBy(times("mark 0;", 39) + "if late 0 mark 1; end"), 1);
    }

    private static void endedNone() {
        says("22: NONE: it was not, no such one");
        HushNet x = together("till 95; wait 1;", "till 95; go 1;", "loop 95 loop 95 end end", "till 1; meet 0 for 95 end");
        for (int a = 0; a < 4; a++) due("ended(" + a + ")", x.ended(a), -1);
        for (int a : new int[] {-1, 4, 8, MIN, MAX}) due("ended(" + a + ")", x.ended(a), -1);
    }

    private static void deedsNone() {
        says("23: how many DEEDS an AGENT did; NONE: no such one");
        HushNet x = storyOfTwo();
        due("deeds", x.deeds(0), 5);
        due("deeds", x.deeds(1), 2);
        for (int a : NO_AGENTS_OF_TWO) due("deeds(" + a + ")", x.deeds(a), -1);
    }

    // ---- Promises 24 and 25 ----
    private static void sawsOnceATick() {
        says("24: how many AGENTS were SEEN, TICK by TICK (each in a TICK once)");
        HushNet x = line(1, 1);
        for (int a = 0; a < 8; a++) x.agent(0, 0);
        for (int w = 0; w < 4; w++) x.post(w, 0, 0, 96);
        due("run", x.run(4), 0);
        due("saws", x.saws(), 8 * 96);
        due("saw", sawOf(x, 0), 0);
        due("saw", sawOf(x, 767), 95070);
        due("saw", sawOf(x, 768), THROWN);
        x.run(0);
        due("saws by none", x.saws(), 0);
    }

    private static void sawInPostsTicks() {
        says("IV: POST: WATCHER is at a SPOT in TICKS a .. b - 1");
        HushNet x = line(1, 1);
        x.agent(0, 0);
        x.post(0, 0, 5, 8);
        x.post(1, 0, 0, 1);
        x.post(2, 0, 95, 96);
        x.run(3);
        due("saws", x.saws(), 5);
        int[] ticks = {0, 5, 6, 7, 95};
        for (int i = 0; i < 5; i++) due("saw", sawOf(x, i), 1000 * ticks[i]);
    }

    private static void sawAtSpotsAlone() {
        says("IV: It SEES, in each TICK, each AGENT at a SPOT where a WATCHER is POSTED");
        HushNet x = play(line(3, 2), new int[] {0, 2}, new int[] {0, 0}, codes("go 1;", "wait 1;"));
        x.post(0, 0, 0, 96);
        x.run(1);
        due("saws", x.saws(), 1);
        x.post(1, 1, 0, 3);
        x.run(2);
        due("saws", x.saws(), 2);
        due("saw", sawOf(x, 1), 2001);
        // Known by n: not a later post, not a struck one.
        x.strike(0);
        x.run(3);
        due("saws", x.saws(), 1);
        x.run(2);
        due("saws", x.saws(), 2);
    }

    private static void sawOrder() {
        says("25: the i-th of these (by TICKS, then by AGENTS): 1000 times the TICK, 10 times the AGENT, and the SPOT");
        HushNet x = apart(10);
        for (int a = 0; a < 3; a++) x.agent(9 - a, 0);
        x.post(0, 7, 3, 5);
        x.post(1, 9, 4, 6);
        x.run(2);
        int[] due = {3027, 4009, 4027, 5009};
        due("saws", x.saws(), 4);
        for (int i = 0; i < 4; i++) due("saw(" + i + ")", sawOf(x, i), due[i]);
    }

    private static void sawNone() {
        says("25: An i that there is not, no RUN: it throws");
        HushNet x = line(1, 1);
        for (int i : new int[] {-1, 0, 1}) due("saw(" + i + ") without a run", sawOf(x, i), THROWN);
        x.agent(0, 0);
        x.run(0);
        due("saw(0) of none", sawOf(x, 0), THROWN);
        x.post(0, 0, 1, 2);
        x.run(1);
        due("saw(0)", sawOf(x, 0), 1000);
        for (int i : new int[] {1, 2, 767, 768, 769, -1, MIN, MAX}) due("saw(" + i + ")", sawOf(x, i), THROWN);
    }

    // ---- Promises 26 and 27 ----
    private static void fallsOfEachK() {
        says("26: how many AGENTS fall at most if k (1 .. 3) are taken");
        HushNet x = relay();
        due("falls", x.falls(1), 3);
        due("falls", x.falls(2), 6);
        due("falls", x.falls(3), 8);
        x = met(7, new int[] {0, 1}, new int[] {2, 3}, new int[] {4, 5});
        due("falls", x.falls(1), 2);
        due("falls", x.falls(2), 4);
        due("falls", x.falls(3), 6);
    }

    private static void fallsOnlyWhomTheseMet() {
        says("26: these, and all whom one of these met");
        HushNet x = met(4, new int[] {0, 1}, new int[] {1, 2}, new int[] {2, 3});
        due("falls", x.falls(1), 3);
        due("falls", x.falls(2), 4);
        x = together("wait 1;", "wait 1;", "wait 1;");
        due("falls without any meeting", x.falls(1), 1);
        due("falls without any meeting", x.falls(2), 2);
        due("falls without any meeting", x.falls(3), 3);
    }

    private static void fallsOfFewer() {
        says("26, 27: with fewer AGENTS all");
        for (int agents = 0; agents <= 4; agents++) {
            HushNet x = line(1, 1);
            for (int a = 0; a < agents; a++) x.agent(0, 0);
            x.run(0);
            for (int k = 1; k <= 3; k++) {
                due("falls of " + agents, x.falls(k), Math.min(k, agents));
                due("fallen of " + agents, x.fallen(k), (1 << Math.min(k, agents)) - 1);
            }
        }
    }

    private static void fallsNone() {
        says("26: NONE: no such k");
        HushNet x = storyOfTwo();
        for (int k : new int[] {0, 4, 8, -1, MIN, MAX}) due("falls(" + k + ")", x.falls(k), -1);
        for (int k = 1; k <= 3; k++) due("falls(" + k + ")", x.falls(k), 2);
    }

    private static void fallenFirst() {
        says("27: Of these sets the first (the one that has the least AGENT that is not in both)");
        // Four fall by 0 and 3, by 1 and 2 (as a number the least), and by others behind them; three by 0 and 1.
        HushNet x = met(5, new int[] {0, 1}, new int[] {1, 3}, new int[] {3, 4});
        due("falls", x.falls(2), 4);
        due("fallen", x.fallen(2), 1 + 8);
        x = relay();
        due("fallen", x.fallen(1), 2);
        due("fallen", x.fallen(2), 2 + 16);
        due("fallen", x.fallen(3), 1 + 8 + 64);
        x = together("", "", "", "");
        due("fallen", x.fallen(1), 1);
        due("fallen", x.fallen(2), 3);
        due("fallen", x.fallen(3), 7);
    }

    private static void fallenNone() {
        says("27: NONE: likewise");
        HushNet x = storyOfTwo();
        for (int k : new int[] {0, 4, 8, -1, MIN, MAX}) due("fallen(" + k + ")", x.fallen(k), -1);
        due("fallen", x.fallen(1), 1);
        due("fallen", x.fallen(3), 3);
    }

    private static void laterAgents() {
        says("16: NONE: an AGENT that it had not (17 to 23 likewise: of the latest RUN)");
        HushNet x = storyOfTwo();
        x.agent(0, 255);
        due("where", x.where(2, 0), -1);
        due("knows", x.knows(2, 0), -1);
        due("chain", x.chain(2, 0, 0), -1);
        due("has", x.has(2, 0), -1);
        due("met", x.met(2, 0), -1);
        due("met", x.met(0, 2), -1);
        due("ended", x.ended(2), -1);
        due("deeds", x.deeds(2), -1);
        due("falls", x.falls(3), 2);
        due("fallen", x.fallen(3), 3);
        x.run(0);
        due("where", x.where(2, 0), 0);
        due("knows", x.knows(2, 0), 0);
        due("chain", x.chain(2, 0, 0), 2);
        due("has", x.has(2, 0), 0);
        due("ended", x.ended(2), 0);
        due("deeds", x.deeds(2), 0);
        due("falls", x.falls(3), 3);
        due("fallen", x.fallen(3), 7);
    }
}
