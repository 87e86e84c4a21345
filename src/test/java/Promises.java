/** The document's edges, promise by promise. */
public final class Promises extends Kit {
    public static void main(String[] args) {
        newObject();
        tape();
        syntax();
        room();
        laterFaults();
        readInPlace();
        townAndAgents();
        gives();
        facts();
        distances();
        runs();
        fortyDeeds();
        goings();
        waits();
        meets();
        tales();
        papers();
        tests();
        saws();
        falls();
        struckOnes();
        rows();
        words();
        touchedOnes();
        feedings();
        counts();
        lateOnes();
        finish("Promises");
    }

    private static void promise(int number) {
        says("promise " + number);
    }

    // ---- Promises ----
    private static void newObject() {
        promise(1);
        HushNet x = new HushNet();
        for (int i = 0; i < 6; i++) due("count", x.count(i), 0);
        due("NONE", HushNet.NONE, -1);
        due("place", x.place(), -1);
        due("where", x.where(0, 0), -1);
        due("saws", x.saws(), -1);
        due("saw", sawOf(x, 0), -7);
        due("falls", x.falls(1), -1);
        due("fallen", x.fallen(1), -1);
        due("doubt", x.doubt(0), -1);
        due("word", x.word(0), -1);
        x.spot();
        x.agent(0, 255);
        due("left", x.left(0), -1);
        due("knows", x.knows(0, 0), -1);
        due("chain", x.chain(0, 0, 0), -1);
        due("has", x.has(0, 0), -1);
        due("ended", x.ended(0), -1);
        due("deeds", x.deeds(0), -1);
        x.agent(0, 1);
        due("met", x.met(0, 1), -1);
    }

    private static void tape() {
        promise(2);
        HushNet x = new HushNet();
        for (int i = 1; i <= 99; i++) due("feed", x.feed(0x20202020, 0x20202020, 0x20202020, 0x20202020, 0x20202020), 20 * i);
        due("back", x.back(1), 1979);
        due("feed", x.feed(0, 0, 0, 0, 0), 1999);
        due("feed", x.feed(0, 0, 0, 0, 0), -1);
        due("count", x.count(5), 1999);
        due("back", x.back(19), 1980);
        due("feed", x.feed(0x20202020, 0x20202020, 0x20202020, 0x20202020, 0x20202020), 2000);
        due("feed", x.feed(0, 0, 0, 0, 0), -1);
        promise(3);
        due("back", x.back(2001), -1);
        due("back", x.back(-1), -1);
        due("back", x.back(Integer.MIN_VALUE), -1);
        due("back", x.back(Integer.MAX_VALUE), -1);
        due("count", x.count(5), 2000);
        due("back", x.back(0), 2000);
        due("back", x.back(1), 1999);
        due("back", x.back(1999), 0);
        due("back", x.back(0), 0);
        due("back", x.back(1), -1);
        // What was taken back is gone, and what comes next stands in its place.
        promise(3);
        feed(x, "code a end wait 3;");
        x.back(8);
        feed(x, " code b end");
        due("read", x.read(), 0);
        due("count", x.count(3), 2);
        promise(2);
        // The highest byte first; a byte of 255 is no token.
        x.feed(0x636f6465, 0x20612065, 0x6e64ff20, 0x20202020, 0x20202020);
        due("read", x.read(), 1);
        due("place", x.place(), 10);
    }

    private static void syntax() {
        promise(4);
        sound("");
        sound(" \t\r\n ");
        sound("code a end");
        sound("code a end code b end");
        sound("code abcdefgh go1;wait02;till 3;abort;loop 0 end if not not watched else end meet 7for 95else end end");
        sound("code a if with 7 end if late 95 end if mark 3 end if paper 7 end if knows 7 end if has 7 end end");
        sound("code a write 7; leave 7; take 7; burn 7; tell 7; mark 3; wipe 3; go 9; wait 95; till 95; loop 95 end end");
        promise(5);
        faulty("code", 1, 4);
        faulty("code ", 1, 5);
        faulty("code a", 1, 6);
        faulty("code a \n", 1, 8);
        faulty("end", 1, 0);
        faulty("codea end", 1, 0);
        faulty("a", 1, 0);
        faulty("go 1;", 1, 0);
        faulty("code end", 1, 5);
        faulty("code 1 end", 1, 5);
        faulty("code code end", 1, 5);
        faulty("code abcdefghi end", 1, 5);
        faulty("code a go; end", 1, 9);
        faulty("code a go 1 end", 1, 12);
        faulty("code a go 123; end", 1, 10);
        faulty("code a go -1; end", 1, 10);
        faulty("code a abort end", 1, 13);
        faulty("code a abort 1; end", 1, 13);
        faulty("code a do; end", 1, 9);
        faulty("code a do go; end", 1, 10);
        faulty("code a b; end", 1, 7);
        faulty("code a ; end", 1, 7);
        faulty("code a else end", 1, 7);
        faulty("code a loop 2 else end end", 1, 14);
        faulty("code a if watched else else end end", 1, 23);
        faulty("code a meet 1 for 2 else else end end", 1, 25);
        faulty("code a meet 1 2 end end", 1, 14);
        faulty("code a meet 1 for end end", 1, 18);
        faulty("code a meet for 1 end end", 1, 12);
        faulty("code a if end end", 1, 10);
        faulty("code a if not end end", 1, 14);
        faulty("code a if watched 1 end end", 1, 18);
        faulty("code a if mark end end", 1, 15);
        faulty("code a if go 1 end end", 1, 10);
        faulty("code a not watched end", 1, 7);
        faulty("code a if watched end", 1, 21);
        faulty("code a loop 3; end end", 1, 13);
        faulty("code a end end", 1, 11);
        faulty("code a end ;", 1, 11);
        faulty("code a end code", 1, 15);
        faulty("Code a end", 1, 0);
        faulty("code a. end", 1, 6);
        faulty("code a \u000b end", 1, 7);
        faulty("code a\u0000end", 1, 6);
        faulty("code a watched; end", 1, 7);
        faulty("code a for 1; end", 1, 7);
        faulty("code a1 end", 1, 6);
        faulty("code a go1;end end", 1, 15);
        // The first fault by its place: a later one of another kind does not count.
        faulty("code a go 99; go; end", 1, 16);
        faulty("code a end code a end code", 1, 26);
    }

    private static void room() {
        promise(4);
        // 8 codes; the 9th at its first token.
        String eight = "code a end code b end code c end code d end code e end code f end code g end code h end";
        sound(eight);
        faulty(eight + " code i end", 2, eight.length() + 1);
        faulty(eight + " code", 2, eight.length() + 1);
        faulty(eight + " cod", 1, eight.length() + 1);
        // Six within one another; the 7th at its first token.
        String six = "code a loop 1 if watched meet 1 for 1 loop 1 if watched meet 1 for 1 ";
        sound(six + "end end end end end end end");
        sound(six + "end loop 2 end end end end end end end");
        faulty(six + "loop 1 end end end end end end end end", 2, six.length());
        faulty(six + "if watched end end end end end end end end", 2, six.length());
        faulty(six + "meet 1 for 1 end end end end end end end end", 2, six.length());
        faulty(six + "else loop x", 2, six.length() + 5);
        faulty(six + "go x", 1, six.length() + 3);
        // 500 tokens: code a, 165 times three, abort ; and end.
        String full = "code a " + times("go 1;", 165);
        sound(full + "abort;end");
        faulty(full + "abort;go 1;", 2, full.length() + 9);
        faulty(full + "abort;go", 1, full.length() + 8);
        faulty(full + "abort;abort;end", 2, full.length() + 11);
        sound("code a end code b " + times("go 1;", 164) + "abort;end");
        faulty("code a end code b " + times("go 1;", 165) + "end", 2, 18 + 5 * 165);
        faulty(full + "abort;", 1, full.length() + 6);
        faulty(full + "abort;x", 1, full.length() + 6);
        faulty(full + "abort;end code", 2, full.length() + 10);
        faulty(full + "abort;end go", 1, full.length() + 10);
        faulty(full + "abort;end #", 1, full.length() + 10);
        sound(full + "abort;end  ");
        // A fault of room ahead of one of syntax, and the other way round.
        faulty(eight + " code i x", 2, eight.length() + 1);
        faulty("code a x" + eight, 1, 7);
        // Syntax and room go ahead of the others, wherever they are.
        faulty("code a go 99; end " + eight, 2, 18 + eight.length() - 10);
    }

    private static void laterFaults() {
        promise(4);
        faulty("code a end code a end", 3, 16);
        faulty("code a do a; end", 4, 10);
        faulty("code a do b; end code b end", 4, 10);
        sound("code a end code b do a; end");
        sound("code a end code b end code c do a; do b; do a; end");
        faulty("code aa end code b do a; end", 4, 22);
        faulty("code a wait 96; end", 5, 12);
        faulty("code a till 96; end", 5, 12);
        faulty("code a loop 96 end end", 5, 12);
        faulty("code a meet 8 for 1 end end", 5, 12);
        faulty("code a meet 7 for 96 end end", 5, 18);
        faulty("code a go 10; end", 5, 10);
        faulty("code a mark 4; end", 5, 12);
        faulty("code a wipe 4; end", 5, 12);
        faulty("code a write 8; end", 5, 13);
        faulty("code a leave 8; end", 5, 13);
        faulty("code a take 8; end", 5, 12);
        faulty("code a burn 8; end", 5, 12);
        faulty("code a tell 8; end", 5, 12);
        faulty("code a if mark 4 end end", 5, 15);
        faulty("code a if paper 8 end end", 5, 16);
        faulty("code a if knows 8 end end", 5, 16);
        faulty("code a if has 8 end end", 5, 14);
        faulty("code a if with 8 end end", 5, 15);
        faulty("code a if late 96 end end", 5, 15);
        // The first by its place.
        faulty("code a go 10; end code a do b; end", 5, 10);
        faulty("code a end code a do b; go 10; end", 3, 16);
        faulty("code a do b; go 10; end code a end", 4, 10);
    }

    private static void readInPlace() {
        promise(4);
        HushNet x = line(2, 1);
        x.agent(0, 0);
        due("read", read(x, "code a go 1; end code b end"), 0);
        due("codes", x.count(3), 2);
        x.give(0, 0);
        due("read", read(x, "code a go 1 end"), 1);
        promise(5);
        due("place", x.place(), 12);
        promise(4);
        due("codes", x.count(3), 2);
        due("tape", x.count(5), 0);
        x.run(0);
        due("where", x.where(0, 1), 1);
        // Text in place of the codes ahead: nobody has one.
        due("read", x.read(), 0);
        promise(5);
        due("place", x.place(), -1);
        promise(4);
        due("codes", x.count(3), 0);
        x.run(0);
        due("where", x.where(0, 1), 0);
        due("give", x.give(0, 0), false);
        // Text after text, long ones too: each finds the room of a first one.
        for (int i = 0; i < 4; i++) due("read", read(x, "code z " + times("go 1;", 160) + "end"), 0);
        due("read", read(x, "code zz wait 1; end code z do zz; go 1; end"), 0);
        x.give(0, 1);
        x.run(0);
        due("where", x.where(0, 1), 0);
        due("where", x.where(0, 2), 1);
        // A code told anew is not done by whom had the old one.
        read(x, "code a go 1; end");
        x.run(0);
        due("where", x.where(0, 1), 0);
    }

    private static void townAndAgents() {
        promise(6);
        HushNet x = new HushNet();
        for (int i = 0; i < 10; i++) due("spot", x.spot(), i);
        due("spot", x.spot(), -1);
        due("count", x.count(0), 10);
        promise(7);
        due("way", x.way(0, 0, 1), -1);
        due("way", x.way(-1, 0, 1), -1);
        due("way", x.way(0, 10, 1), -1);
        due("way", x.way(0, 1, 0), -1);
        due("way", x.way(0, 1, 10), -1);
        due("count", x.count(1), 0);
        for (int i = 0; i < 24; i++) due("way", x.way(0, 1 + i % 9, 9), i);
        due("way", x.way(0, 1, 1), -1);
        due("count", x.count(1), 24);
        due("distance", x.distance(0, 1), 9);
        promise(8);
        due("agent", x.agent(10, 0), -1);
        due("agent", x.agent(-1, 0), -1);
        due("agent", x.agent(0, 256), -1);
        due("agent", x.agent(0, -1), -1);
        due("count", x.count(2), 0);
        for (int i = 0; i < 8; i++) due("agent", x.agent(i, 255 - i), i);
        due("agent", x.agent(0, 0), -1);
        due("count", x.count(2), 8);
        x.run(0);
        due("where", x.where(7, 0), 7);
        due("knows", x.knows(7, 3), 0);
        due("knows", x.knows(7, 2), -1);
        due("knows", x.knows(0, 7), 0);
    }

    private static void gives() {
        promise(9);
        HushNet x = line(2, 1);
        x.agent(0, 0);
        due("give", x.give(0, -1), true);
        due("give", x.give(0, 0), false);
        due("give", x.give(1, -1), false);
        due("give", x.give(-1, -1), false);
        read(x, "code a end code b go 1; end");
        due("give", x.give(0, 1), true);
        due("give", x.give(0, 2), false);
        due("give", x.give(0, -2), false);
        x.run(0);
        due("where", x.where(0, 1), 1);
        due("give", x.give(0, -1), true);
        x.run(0);
        due("where", x.where(0, 1), 0);
    }

    private static void facts() {
        HushNet x = line(2, 1);
        x.agent(0, 0);
        promise(10);
        due("post", x.post(0, 2, 0, 1), -1);
        due("post", x.post(0, -1, 0, 1), -1);
        due("post", x.post(-1, 0, 0, 1), -1);
        due("post", x.post(4, 0, 0, 1), -1);
        due("post", x.post(0, 0, -1, 1), -1);
        due("post", x.post(0, 0, 3, 3), -1);
        due("post", x.post(0, 0, 4, 3), -1);
        due("post", x.post(0, 0, 0, 97), -1);
        due("post", x.post(0, 0, Integer.MIN_VALUE, Integer.MAX_VALUE), -1);
        due("count", x.count(4), 0);
        due("post", x.post(3, 0, 10, 20), 0);
        due("post", x.post(3, 1, 19, 21), -1);
        due("post", x.post(3, 1, 5, 11), -1);
        due("post", x.post(3, 0, 12, 13), -1);
        due("post", x.post(3, 0, 0, 96), -1);
        due("post", x.post(3, 1, 20, 96), 1);
        due("post", x.post(3, 1, 0, 10), 2);
        due("post", x.post(2, 0, 0, 96), 3);
        promise(11);
        due("sight", x.sight(1, 0, 0), -1);
        due("sight", x.sight(-1, 0, 0), -1);
        due("sight", x.sight(0, 2, 0), -1);
        due("sight", x.sight(0, -1, 0), -1);
        due("sight", x.sight(0, 0, -1), -1);
        due("sight", x.sight(0, 0, 96), -1);
        due("sight", x.sight(0, 1, 95), 4);
        promise(12);
        due("turned", x.turned(1, 0), -1);
        due("turned", x.turned(-1, 0), -1);
        due("turned", x.turned(0, 96), -1);
        due("turned", x.turned(0, -1), -1);
        due("turned", x.turned(0, 95), 5);
        promise(13);
        due("strike", x.strike(6), -1);
        due("strike", x.strike(-1), -1);
        due("strike", x.strike(0), 6);
        due("strike", x.strike(6), -1);
        due("strike", x.strike(7), -1);
        due("strike", x.strike(4), 7);
        due("strike", x.strike(5), 8);
        due("strike", x.strike(0), 9);
        promise(10);
        due("post", x.post(3, 1, 10, 20), 10);
        due("post", x.post(3, 0, 10, 20), -1);
        due("count", x.count(4), 11);
        for (int i = 11; i < 150; i++) due("sight", x.sight(0, 0, i % 96), i);
        due("post", x.post(1, 0, 0, 1), -1);
        promise(11);
        due("sight", x.sight(0, 0, 0), -1);
        promise(12);
        due("turned", x.turned(0, 0), -1);
        promise(13);
        due("strike", x.strike(10), -1);
        due("count", x.count(4), 150);
    }

    private static void distances() {
        promise(14);
        HushNet x = new HushNet();
        for (int i = 0; i < 5; i++) x.spot();
        due("distance", x.distance(0, 1), -1);
        due("distance", x.distance(2, 2), 0);
        due("distance", x.distance(5, 5), -1);
        due("distance", x.distance(-1, 0), -1);
        due("distance", x.distance(0, Integer.MAX_VALUE), -1);
        x.way(0, 1, 9);
        due("distance", x.distance(0, 1), 9);
        x.way(1, 0, 7);
        due("distance", x.distance(0, 1), 7);
        x.way(3, 1, 2);
        x.way(3, 2, 1);
        x.way(2, 0, 3);
        due("distance", x.distance(0, 1), 6);
        due("distance", x.distance(1, 0), 6);
        due("distance", x.distance(3, 0), 4);
        due("distance", x.distance(4, 0), -1);
    }

    private static void runs() {
        promise(15);
        HushNet x = line(1, 1);
        due("run", x.run(-1), -1);
        due("run", x.run(1), -1);
        promise(24);
        due("saws", x.saws(), -1);
        promise(15);
        due("run", x.run(0), 0);
        x = play(line(1, 1), new int[] {0, 0, 0}, new int[] {3, 0, 4},
                "code a meet 1 for 5 tell 0; tell 1; tell 0; end end code b meet 0 for 5 end meet 2 for 5 tell 1; tell 0; tell 2; end end"
                        + " code c meet 1 for 9 tell 2; tell 1; end end");
        due("run", x.run(0), 5);
        // What a run left does not change what the next one finds.
        due("run", x.run(0), 5);
        due("run", x.run(1), -1);
        due("knows", x.knows(1, 0), 1);
    }

    private static void fortyDeeds() {
        promise(23);
        HushNet x = alone("loop 40 end");
        due("deeds", x.deeds(0), 40);
        promise(22);
        due("ended", x.ended(0), 0);
        x = alone("loop 41 end");
        due("deeds", x.deeds(0), 41);
        due("ended", x.ended(0), 1);
        x = alone(times("loop 0 mark 1; end ", 41) + "go 1;");
        due("where", x.where(0, 1), 0);
        due("where", x.where(0, 2), 1);
        due("deeds", x.deeds(0), 42);
        due("left", x.left(0), 0);
        // Turns, ifs, meets and dos count; waits of no tick as well.
        x = play(line(2, 1), new int[] {0, 0}, new int[] {0, 0},
                "code b mark 0; end code a loop 3 do b; if watched else wait 0; end meet 0 for 0 end till 0; go 0; go 7; end end");
        due("deeds", x.deeds(1), 3 + 3 * 8);
        due("ended", x.ended(1), 0);
        // A long loop takes 40 deeds in each tick, to the last one.
        x = alone("loop 95 loop 95 loop 95 mark 0; wipe 0; end end end");
        due("deeds", x.deeds(0), 96 * 40);
        due("ended", x.ended(0), -1);
        x = play(line(1, 1), new int[] {0}, new int[] {0}, "code a end");
        due("deeds", x.deeds(0), 0);
        due("ended", x.ended(0), 0);
        x.give(0, -1);
        x.run(0);
        due("deeds", x.deeds(0), 0);
        due("ended", x.ended(0), 0);
        due("deeds", x.deeds(1), -1);
        due("deeds", x.deeds(-1), -1);
        promise(22);
        due("ended", x.ended(1), -1);
        due("ended", x.ended(-1), -1);
        // As deep as can be: eight codes within one another, six loops within each.
        StringBuilder deep = new StringBuilder();
        for (int i = 0; i < 8; i++) {
            deep.append("code ").append((char) ('a' + i)).append(times(" loop 1", 6));
            deep.append(i == 0 ? " mark 2;" : " do " + (char) ('a' + i - 1) + ";").append(times(" end", 7)).append(' ');
        }
        x = line(1, 1);
        x.agent(0, 0);
        due("read", read(x, deep.toString()), 0);
        x.give(0, 7);
        x.run(0);
        due("deeds", x.deeds(0), 56);
        due("ended", x.ended(0), 1);
        due("left", x.left(0), 4);
        // abort ends all of the code, from within another one, too.
        x = play(line(2, 1), new int[] {0, 0}, new int[] {0, 0}, "code b loop 5 wait 3; abort; end end code a do b; mark 1; end");
        due("ended", x.ended(1), 3);
        due("left", x.left(0), 0);
        due("deeds", x.deeds(1), 4);
    }

    private static void goings() {
        promise(16);
        HushNet x = play(line(3, 2), new int[] {0}, new int[] {0}, "code a go 0; go 9; go 2; go 1; end");
        int[] row = {0, -1, 1, -1, 2, -1, 1, 1};
        for (int t = 0; t < row.length; t++) due("where " + t, x.where(0, t), row[t]);
        due("where", x.where(0, 95), 1);
        due("where", x.where(0, 96), -1);
        due("where", x.where(0, -1), -1);
        due("where", x.where(1, 0), -1);
        due("where", x.where(-1, 0), -1);
        due("ended", x.ended(0), 6);
        due("deeds", x.deeds(0), 4);
        // Of alike ways the one by the lesser spot; of two ways to it the shortest.
        x = new HushNet();
        for (int i = 0; i < 5; i++) x.spot();
        x.way(0, 3, 1);
        x.way(3, 4, 3);
        x.way(0, 2, 9);
        x.way(2, 4, 2);
        x.way(2, 0, 2);
        x.way(0, 4, 5);
        play(x, new int[] {0}, new int[] {0}, "code a go 4; end");
        due("where", x.where(0, 1), -1);
        due("where", x.where(0, 2), 2);
        due("where", x.where(0, 4), 4);
        // No way there.
        x = new HushNet();
        x.spot();
        x.spot();
        play(x, new int[] {0}, new int[] {0}, "code a go 1; mark 2; end");
        due("ended", x.ended(0), 0);
        due("left", x.left(0), 4);
        // On a way at the end of the day.
        x = play(line(2, 2), new int[] {0}, new int[] {0}, "code a till 94; go 1; end");
        due("where", x.where(0, 94), 0);
        due("where", x.where(0, 95), -1);
        due("ended", x.ended(0), -1);
        x = play(line(2, 1), new int[] {0}, new int[] {0}, "code a till 94; go 1; end");
        due("where", x.where(0, 95), 1);
        due("ended", x.ended(0), 95);
    }

    private static void waits() {
        promise(22);
        due("ended", alone("wait 5;").ended(0), 5);
        due("ended", alone("wait 95;").ended(0), 95);
        due("ended", alone("wait 1; wait 95;").ended(0), -1);
        due("ended", alone("wait 0; mark 0;").ended(0), 0);
        due("ended", alone("till 7; till 7; till 3;").ended(0), 7);
        due("ended", alone("wait 3; till 2; wait 2;").ended(0), 5);
        due("ended", alone("loop 4 wait 2; end").ended(0), 8);
        due("ended", alone("go 1;").ended(0), 1);
        due("ended", alone("meet 1 for 6 end").ended(0), 6);
        due("ended", alone("meet 0 for 4 else wait 1; end").ended(0), 5);
    }

    private static void meets() {
        promise(21);
        // The one that comes second goes on at once; the first in this tick if its turn is still to come, else in the next.
        HushNet x = play(line(1, 1), new int[] {0, 0}, new int[] {0, 0},
                "code a meet 1 for 9 mark 0; end end code b wait 2; meet 0 for 9 mark 1; end end");
        due("met", x.met(0, 1), 2);
        due("met", x.met(1, 0), 2);
        due("ended", x.ended(0), 3);
        due("ended", x.ended(1), 2);
        x = play(line(1, 1), new int[] {0, 0}, new int[] {0, 0},
                "code a wait 2; meet 1 for 9 mark 0; end end code b meet 0 for 9 mark 1; end end");
        due("met", x.met(0, 1), 2);
        due("ended", x.ended(0), 2);
        due("ended", x.ended(1), 2);
        due("left", x.left(0), 3);
        // k ticks after it began it is over; whose turn comes ahead of its still meets it.
        x = play(line(1, 1), new int[] {0, 0}, new int[] {0, 0},
                "code a wait 2; meet 1 for 0 else mark 0; end end code b meet 0 for 2 else mark 1; end end");
        due("met", x.met(0, 1), 2);
        due("left", x.left(0), 0);
        x = play(line(1, 1), new int[] {0, 0}, new int[] {0, 0},
                "code a meet 1 for 2 else mark 0; end end code b wait 2; meet 0 for 1 else mark 1; end end");
        due("met", x.met(0, 1), -1);
        due("ended", x.ended(0), 2);
        due("ended", x.ended(1), 3);
        due("left", x.left(0), 3);
        // for 0 meets only whom already waits.
        x = play(line(1, 1), new int[] {0, 0}, new int[] {0, 0},
                "code a meet 1 for 0 else mark 0; end end code b meet 0 for 0 else mark 1; end end");
        due("met", x.met(0, 1), -1);
        due("left", x.left(0), 3);
        // Not elsewhere, not with whom waits for another, not with itself.
        x = play(line(2, 1), new int[] {0, 1}, new int[] {0, 0}, "code a meet 1 for 9 end end code b meet 0 for 9 end end");
        due("met", x.met(0, 1), -1);
        x = play(line(1, 1), new int[] {0, 0, 0}, new int[] {0, 0, 0},
                "code a meet 1 for 9 end end code b meet 2 for 5 end meet 0 for 9 end end code c meet 0 for 9 end end");
        due("met", x.met(0, 1), 5);
        due("met", x.met(1, 2), -1);
        due("met", x.met(0, 2), -1);
        x = play(line(1, 1), new int[] {0, 0}, new int[] {0, 0}, "code a meet 0 for 1 mark 0; else mark 1; end end code b meet 1 for 1 end end");
        due("met", x.met(0, 0), -1);
        due("left", x.left(0), 2);
        // A meet that came about is no waiting any more: the next one is with whom waits anew.
        x = play(line(1, 1), new int[] {0, 0}, new int[] {0, 0},
                "code a meet 1 for 9 end meet 1 for 9 mark 0; end end code b meet 0 for 9 end meet 0 for 0 mark 1; else mark 2; end end");
        due("met", x.met(0, 1), 0);
        due("left", x.left(0), 4);
        // The first tick counts.
        x = play(line(1, 1), new int[] {0, 0}, new int[] {0, 0},
                "code a meet 1 for 9 end wait 3; meet 1 for 9 mark 0; end end code b wait 1; meet 0 for 9 end meet 0 for 9 mark 1; end end");
        due("met", x.met(1, 0), 1);
        due("left", x.left(0), 3);
        due("met", x.met(0, 2), -1);
        due("met", x.met(-1, 0), -1);
        // In the last tick it comes about, and the one that had its turn never goes on.
        x = play(line(1, 1), new int[] {0, 0}, new int[] {0, 0},
                "code a till 95; meet 1 for 9 end end code b till 95; meet 0 for 9 end end");
        due("met", x.met(0, 1), 95);
        due("ended", x.ended(0), -1);
        due("ended", x.ended(1), 95);
        // The 40th deed is a meet: its first deeds wait for the next tick.
        x = play(line(1, 1), new int[] {0, 0}, new int[] {0, 0},
                "code a meet 1 for 9 end end code b loop 39 end meet 0 for 9 mark 0; end end");
        due("met", x.met(0, 1), 0);
        due("ended", x.ended(1), 1);
    }

    private static void tales() {
        promise(17);
        HushNet x = play(line(2, 1), new int[] {0, 0, 0}, new int[] {1, 0, 2},
                "code a meet 1 for 9 tell 0; end end code b meet 0 for 9 wait 1; meet 2 for 9 tell 0; end end end"
                        + " code c meet 1 for 9 go 1; end end");
        due("knows", x.knows(0, 0), 0);
        due("knows", x.knows(1, 0), 1);
        due("knows", x.knows(2, 0), 1);
        due("knows", x.knows(2, 1), 0);
        due("knows", x.knows(1, 1), -1);
        due("knows", x.knows(3, 0), -1);
        due("knows", x.knows(-1, 0), -1);
        due("knows", x.knows(0, -1), -1);
        due("knows", x.knows(0, 8), -1);
        promise(18);
        due("chain", x.chain(2, 0, 0), 2);
        due("chain", x.chain(2, 0, 1), 1);
        due("chain", x.chain(2, 0, 2), 0);
        due("chain", x.chain(2, 0, 3), -1);
        due("chain", x.chain(2, 0, Integer.MAX_VALUE), -1);
        due("chain", x.chain(2, 0, -1), -1);
        due("chain", x.chain(1, 1, 0), -1);
        due("chain", x.chain(3, 0, 0), -1);
        due("chain", x.chain(0, 8, 0), -1);
        due("chain", x.chain(0, 0, 0), 0);
        due("chain", x.chain(0, 0, 1), -1);
        promise(17);
        // Nothing is told outside, in the else deeds, or by whom does not know.
        x = play(line(1, 1), new int[] {0, 0}, new int[] {1, 0},
                "code a tell 0; meet 1 for 3 tell 1; end tell 0; meet 1 for 2 else tell 0; end end code b meet 0 for 3 end end");
        due("run", x.run(0), 0);
        due("met", x.met(0, 1), 0);
        // The innermost meet that came about counts; the else deeds of one within it are still within it.
        x = play(line(1, 1), new int[] {0, 0, 0}, new int[] {7, 0, 0},
                "code a meet 1 for 9 meet 2 for 9 tell 0; end meet 2 for 0 else tell 1; end tell 2; end end"
                        + " code b meet 0 for 9 end end code c meet 0 for 9 end end");
        due("knows", x.knows(2, 0), 1);
        due("knows", x.knows(1, 0), -1);
        due("knows", x.knows(1, 1), 1);
        due("knows", x.knows(2, 1), -1);
        due("knows", x.knows(1, 2), 1);
        // A code that is done within a meet tells, too.
        x = play(line(1, 1), new int[] {0, 0, 0}, new int[] {0, 1, 0},
                "code t tell 0; end code a meet 2 for 9 do t; end end code b meet 1 for 9 end end");
        due("knows", x.knows(2, 0), 1);
        // Not to one that is gone, but to one that begins its way in this tick.
        x = play(line(2, 1), new int[] {0, 0}, new int[] {0, 1},
                "code a meet 1 for 9 go 1; end end code b wait 2; meet 0 for 9 tell 0; end end");
        due("knows", x.knows(0, 0), 2);
        x = play(line(2, 1), new int[] {0, 0}, new int[] {1, 0},
                "code a meet 1 for 9 tell 0; end end code b meet 0 for 9 go 1; end end");
        due("knows", x.knows(1, 0), -1);
        x = play(line(2, 1), new int[] {0, 0}, new int[] {0, 1},
                "code a wait 1; meet 1 for 9 go 1; end end code b meet 0 for 9 tell 0; end end");
        due("knows", x.knows(0, 0), 1);
        due("where", x.where(0, 2), 1);
    }

    private static void papers() {
        promise(19);
        HushNet x = play(line(2, 1), new int[] {0, 0, 0}, new int[] {1, 0, 1},
                "code a write 0; write 1; leave 0; leave 0; write 0; end code b wait 1; take 0; take 1; end"
                        + " code c write 0; leave 0; end");
        due("has", x.has(0, 0), 1);
        due("has", x.has(0, 1), 0);
        due("has", x.has(1, 0), 1);
        due("has", x.has(1, 1), 0);
        due("has", x.has(2, 0), 0);
        due("has", x.has(3, 0), -1);
        due("has", x.has(-1, 0), -1);
        due("has", x.has(0, 8), -1);
        due("has", x.has(0, -1), -1);
        promise(18);
        // The paper that lies there is the last one left.
        due("chain", x.chain(1, 0, 1), 2);
        due("knows", x.knows(1, 0), 1);
        promise(20);
        due("left", x.left(0), 0);
        x = alone("write 0; leave 0; mark 0; mark 3; wipe 0; wipe 1; go 1; write 0; leave 0; write 0;");
        due("left", x.left(0), 8 + 16);
        due("left", x.left(1), 16);
        due("left", x.left(2), -1);
        due("left", x.left(-1), -1);
        due("has", x.has(0, 0), 1);
        x = alone("write 0; leave 0; write 0; take 0; burn 0; burn 1; leave 0;");
        due("left", x.left(0), 0);
        due("has", x.has(0, 0), 0);
        x = play(line(1, 1), new int[] {0}, new int[] {255}, "code a " + "loop 1 write 7; leave 7; mark 3; end write 6; end");
        due("left", x.left(0), 8 + (1 << 11));
        due("has", x.has(0, 6), 1);
        due("has", x.has(0, 7), 0);
        promise(19);
        x = play(line(1, 1), new int[] {0, 0}, new int[] {64, 0}, "code a write 6; leave 6; end code b take 6; take 6; end");
        due("has", x.has(1, 6), 1);
        due("has", x.has(1, 0), 0);
        due("has", x.has(0, 6), 0);
        due("knows", x.knows(1, 6), 0);
        due("chain", x.chain(1, 6, 1), 0);
        promise(18);
        // One that took its own paper learned nothing by it.
        x = alone("write 0; leave 0; take 0;");
        due("run", x.run(0), 0);
        due("chain", x.chain(0, 0, 1), -1);
    }

    private static void tests() {
        promise(20);
        HushNet x = play(line(2, 1), new int[] {0}, new int[] {1},
                "code a if knows 0 mark 0; end if knows 1 mark 1; end if not has 0 mark 2; end write 0; if has 0 mark 3; end end");
        due("left", x.left(0), 1 + 4 + 8);
        x = alone("mark 3; if mark 3 mark 0; else mark 1; end if not not mark 2 mark 1; else mark 2; end");
        due("left", x.left(0), 1 + 4 + 8);
        x = alone("if paper 0 mark 0; end write 0; leave 0; if paper 0 mark 1; end if paper 1 mark 2; end");
        due("left", x.left(0), 2 + 16);
        x = alone("if late 0 mark 0; end wait 3; if late 3 mark 1; end if late 4 mark 2; end if not late 4 mark 3; end");
        due("left", x.left(0), 1 + 2 + 8);
        // with: whoever is there in this tick, coming or going; one that is not in the net never.
        x = play(line(2, 1), new int[] {0, 1}, new int[] {0, 0},
                "code a wait 1; if with 1 mark 0; end wait 1; if with 1 mark 1; end wait 1; if with 1 mark 2; end if with 7 mark 3; end end"
                        + " code b go 0; wait 1; go 1; if with 0 mark 0; end end");
        due("left", x.left(0), 3);
        due("left", x.left(1), 0);
        // watched, by the posts that are known.
        x = play(line(2, 1), new int[] {0}, new int[] {0},
                "code a if watched mark 0; end wait 4; if watched mark 1; end wait 1; if watched mark 2; end go 1; if watched mark 3; end end");
        due("left", x.left(0), 0);
        x.post(2, 0, 0, 5);
        x.run(0);
        due("left", x.left(0), 0);
        x.run(1);
        due("left", x.left(0), 3);
        due("left", x.left(1), 0);
        x.post(1, 1, 6, 7);
        x.strike(0);
        x.run(2);
        due("left", x.left(0), 3);
        due("left", x.left(1), 8);
        x.run(3);
        due("left", x.left(0), 0);
        due("left", x.left(1), 8);
    }

    private static void saws() {
        promise(24);
        HushNet x = play(line(3, 2), new int[] {0, 1}, new int[] {0, 0}, "code a go 2; end code b wait 1; end");
        due("saws", x.saws(), 0);
        promise(25);
        due("saw", sawOf(x, 0), -7);
        promise(24);
        x.post(0, 1, 1, 4);
        x.post(1, 1, 2, 3);
        x.post(2, 0, 0, 1);
        x.run(3);
        due("saws", x.saws(), 5);
        promise(25);
        due("saw", sawOf(x, 0), 0);
        due("saw", sawOf(x, 1), 1011);
        due("saw", sawOf(x, 2), 2001);
        due("saw", sawOf(x, 3), 2011);
        due("saw", sawOf(x, 4), 3011);
        due("saw", sawOf(x, 5), -7);
        due("saw", sawOf(x, -1), -7);
        due("saw", sawOf(x, Integer.MAX_VALUE), -7);
        x.run(2);
        due("saws", x.saws(), 4);
        // All eight in all ticks.
        x = line(1, 1);
        for (int i = 0; i < 8; i++) x.agent(0, 0);
        x.post(0, 0, 0, 96);
        x.run(1);
        due("saws", x.saws(), 768);
        due("saw", sawOf(x, 767), 95070);
    }

    private static void falls() {
        promise(26);
        HushNet x = play(line(1, 1), new int[] {0, 0, 0, 0, 0}, new int[] {0, 0, 0, 0, 0},
                "code a end code b meet 2 for 9 end end code c meet 1 for 9 end meet 3 for 9 end end code d meet 2 for 9 end end code e end");
        due("falls", x.falls(1), 3);
        due("falls", x.falls(2), 4);
        due("falls", x.falls(3), 5);
        due("falls", x.falls(0), -1);
        due("falls", x.falls(4), -1);
        x = play(line(1, 1), new int[] {0, 0}, new int[] {0, 0}, "code a meet 1 for 9 end end code b meet 0 for 9 end end");
        due("falls", x.falls(1), 2);
        x = play(line(1, 1), new int[] {0, 0, 0}, new int[] {0, 0, 0},
                "code a meet 2 for 9 end end code b meet 2 for 9 end end code c meet 0 for 9 end meet 1 for 9 end end");
        due("falls", x.falls(1), 3);
        promise(27);
        // In a ring 0 4 1 6 3 7 2 5 six fall by {1, 2} and by {0, 3}, five by {0, 1} and by {0, 2}.
        int[] none = new int[8];
        x = play(line(1, 1), none, none, ringText());
        due("met", x.met(5, 0), 14);
        due("falls", x.falls(2), 6);
        due("fallen", x.fallen(2), 1 + 8);
        x = play(line(1, 1), new int[] {0, 0, 0, 0, 0}, new int[] {0, 0, 0, 0, 0},
                "code a end code b meet 2 for 9 end end code c meet 1 for 9 end meet 3 for 9 end end code d meet 2 for 9 end end code e end");
        due("fallen", x.fallen(1), 4);
        due("fallen", x.fallen(2), 1 + 4);
        due("fallen", x.fallen(3), 1 + 4 + 16);
        due("fallen", x.fallen(0), -1);
        due("fallen", x.fallen(-1), -1);
        due("fallen", x.fallen(4), -1);
        x = play(line(1, 1), new int[] {0, 0}, new int[] {0, 0}, "code a end code b end");
        due("falls", x.falls(1), 1);
        due("fallen", x.fallen(1), 1);
        due("falls", x.falls(3), 2);
        due("fallen", x.fallen(3), 3);
        // The least agent that is not in both: {0, 3} goes ahead of {1, 2}.
        x = play(line(1, 1), new int[] {0, 0, 0, 0}, new int[] {0, 0, 0, 0},
                "code a meet 1 for 9 end end code b meet 0 for 9 end end code c meet 3 for 9 end end code d meet 2 for 9 end end");
        due("falls", x.falls(2), 4);
        due("fallen", x.fallen(2), 1 + 4);
    }

    private static String ringText() {
        int[] ring = {0, 4, 1, 6, 3, 7, 2, 5, 0};
        String[] deeds = {"", "", "", "", "", "", "", ""};
        for (int i = 0; i < 8; i++) {
            int a = ring[i], b = ring[i + 1];
            deeds[a] += " till " + 2 * i + "; meet " + b + " for 1 end ";
            deeds[b] += " till " + 2 * i + "; meet " + a + " for 1 end ";
        }
        StringBuilder text = new StringBuilder();
        for (int i = 0; i < 8; i++) text.append("code ").append((char) ('a' + i)).append(' ').append(deeds[i]).append(" end ");
        return text.toString();
    }

    private static void struckOnes() {
        promise(28);
        HushNet x = line(1, 1);
        x.agent(0, 0);
        x.sight(0, 0, 0);
        x.turned(0, 3);
        x.strike(0);
        due("struck", x.struck(0, 3), 1);
        due("struck", x.struck(0, 2), 0);
        due("struck", x.struck(0, 0), -1);
        due("struck", x.struck(1, 1), -1);
        due("struck", x.struck(1, 3), 0);
        due("struck", x.struck(2, 3), 0);
        due("struck", x.struck(3, 3), -1);
        due("struck", x.struck(0, 4), -1);
        due("struck", x.struck(-1, 3), -1);
        due("struck", x.struck(0, -1), -1);
    }

    private static void rows() {
        promise(29);
        HushNet x = line(3, 4);
        x.agent(0, 0);
        due("canBe", x.canBe(0, 2, 0, 0), 1);
        due("canBe", x.canBe(0, 3, 0, 0), -1);
        due("canBe", x.canBe(0, -1, 0, 0), -1);
        due("canBe", x.canBe(1, 0, 0, 0), -1);
        due("canBe", x.canBe(-1, 0, 0, 0), -1);
        due("canBe", x.canBe(0, 0, 96, 0), -1);
        due("canBe", x.canBe(0, 0, -1, 0), -1);
        due("canBe", x.canBe(0, 0, 0, 1), -1);
        due("canBe", x.canBe(0, 0, 0, -1), -1);
        x.sight(0, 0, 10);
        due("canBe", x.canBe(0, 1, 6, 1), 1);
        due("canBe", x.canBe(0, 1, 7, 1), 0);
        due("canBe", x.canBe(0, 1, 10, 1), 0);
        due("canBe", x.canBe(0, 1, 13, 1), 0);
        due("canBe", x.canBe(0, 1, 14, 1), 1);
        due("canBe", x.canBe(0, 2, 17, 1), 0);
        due("canBe", x.canBe(0, 2, 18, 1), 1);
        // On its way over a tick of a sight it can not be.
        x.sight(0, 0, 12);
        due("canBe", x.canBe(0, 1, 14, 2), 0);
        due("canBe", x.canBe(0, 1, 16, 2), 1);
        // Watched spots in all ticks but those of its sights; it can hide on its ways.
        x = line(2, 3);
        x.agent(0, 0);
        x.post(0, 0, 1, 96);
        x.post(1, 1, 0, 94);
        promise(30);
        due("fits", x.fits(0, 2), 0);
        due("fits", x.fits(0, 1), 1);
        due("fits", x.fits(0, 0), 1);
        due("fits", x.fits(0, 3), -1);
        due("fits", x.fits(0, -1), -1);
        due("fits", x.fits(1, 0), -1);
        due("fits", x.fits(-1, 0), -1);
        for (int t = 3; t < 93; t += 6) x.sight(0, 1, t);
        for (int t = 6; t < 93; t += 6) x.sight(0, 0, t);
        // From its sight at spot 0 in tick 90 it can only go to spot 1 by 93, which is watched then.
        due("fits", x.fits(0, x.count(4)), 0);
        due("canBe", x.canBe(0, 0, 0, x.count(4)), 0);
        x.sight(0, 1, 93);
        due("fits", x.fits(0, x.count(4)), 1);
        promise(29);
        due("canBe", x.canBe(0, 0, 0, x.count(4)), 1);
        due("canBe", x.canBe(0, 1, 0, x.count(4)), 0);
        due("canBe", x.canBe(0, 1, 93, x.count(4)), 1);
        // Two sights at two spots in one tick; a struck one is none.
        x = line(2, 1);
        x.agent(0, 0);
        x.sight(0, 0, 5);
        x.sight(0, 1, 5);
        due("fits", x.fits(0, 2), 0);
        due("fits", x.fits(0, 1), 1);
        x.strike(0);
        due("fits", x.fits(0, 3), 1);
        promise(29);
        due("canBe", x.canBe(0, 1, 5, 3), 1);
        due("canBe", x.canBe(0, 0, 5, 3), 0);
        // Begun at tick 93 over a way of 3: on it at the end, so that no spot is needed at 94 and 95.
        x = line(2, 3);
        x.agent(0, 0);
        x.post(0, 0, 94, 96);
        x.post(1, 1, 94, 96);
        due("canBe", x.canBe(0, 0, 93, 2), 1);
        due("canBe", x.canBe(0, 0, 92, 2), 1);
        due("canBe", x.canBe(0, 0, 94, 2), 0);
        x.sight(0, 1, 95);
        due("canBe", x.canBe(0, 0, 93, 3), 0);
        due("canBe", x.canBe(0, 0, 92, 3), 1);
        due("canBe", x.canBe(0, 1, 95, 3), 1);
        // A spot without ways, watched in the last tick.
        x = line(1, 1);
        x.agent(0, 0);
        x.post(0, 0, 95, 96);
        due("canBe", x.canBe(0, 0, 0, 1), 0);
        due("canBe", x.canBe(0, 0, 0, 0), 1);
    }

    /** Agent 0 is seen at spot 0 early and at spot 2 late, agent 1 stays at spot 2, agent 2 at spot 0. */
    private static HushNet hunted() {
        HushNet x = line(3, 2);
        for (int i = 0; i < 3; i++) x.agent(0, 0);
        x.post(0, 1, 0, 96);
        x.sight(0, 0, 10);
        x.sight(0, 1, 12);
        x.sight(0, 2, 14);
        x.sight(1, 2, 0);
        x.sight(2, 0, 0);
        return x;
    }

    private static void words() {
        promise(31);
        HushNet x = hunted();
        int n = x.count(4);
        due("could", x.could(1, 0, 95, false, n), 7);
        due("could", x.could(1, 0, 13, false, n), 5);
        due("could", x.could(1, 0, 14, false, n), 7);
        due("could", x.could(1, 11, 13, false, n), 1);
        due("could", x.could(1, 11, 11, false, n), 0);
        due("could", x.could(1, 12, 95, false, n), 3);
        due("could", x.could(2, 0, 95, false, n), 3);
        due("could", x.could(4, 0, 95, false, n), 7);
        due("could", x.could(4, 11, 95, true, n), 4);
        due("could", x.could(6, 0, 0, true, n), 7);
        due("could", x.could(0, 0, 95, true, n), 0);
        due("could", x.could(1, 5, 4, true, n), -1);
        due("could", x.could(1, -1, 4, true, n), -1);
        due("could", x.could(1, 5, 96, true, n), -1);
        due("could", x.could(8, 5, 95, true, n), -1);
        due("could", x.could(-1, 5, 95, true, n), -1);
        due("could", x.could(1, 5, 95, true, n + 1), -1);
        due("could", x.could(1, 5, 95, true, -1), -1);
        promise(32);
        due("since", x.since(1, 1, 0, false, n), 14);
        due("since", x.since(2, 1, 0, false, n), 0);
        due("since", x.since(2, 1, 11, false, n), -1);
        due("since", x.since(0, 1, 11, false, n), 12);
        due("since", x.since(0, 2, 3, false, n), 14);
        due("since", x.since(3, 1, 0, false, n), -1);
        due("since", x.since(0, 8, 0, false, n), -1);
        due("since", x.since(0, 1, 96, false, n), -1);
        due("since", x.since(0, 1, -1, false, n), -1);
        due("since", x.since(0, 1, 0, false, n + 1), -1);
        // A drop lies where it was left: one who comes later finds it.
        x = line(2, 1);
        x.agent(0, 0);
        x.agent(0, 0);
        x.sight(0, 0, 5);
        x.sight(0, 1, 6);
        x.sight(1, 1, 5);
        x.sight(1, 0, 6);
        for (int t = 7; t < 96; t++) {
            x.sight(0, 1, t);
            if (t < 60) x.sight(1, 0, t);
        }
        x.post(0, 1, 60, 96);
        n = x.count(4);
        due("since", x.since(1, 1, 5, false, n), -1);
        due("since", x.since(1, 1, 5, true, n), 6);
        due("since", x.since(1, 1, 6, true, n), -1);
        due("since", x.since(1, 1, 0, true, n), 0);
        staying();
        promise(31);
        due("could", x.could(1, 5, 95, false, n), 1);
        due("could", x.could(1, 5, 5, true, n), 1);
        due("could", x.could(1, 5, 6, true, n), 3);
    }

    /** Agent 1 gets it at a spot in tick 20, stays, and agent 2 comes by later; agent 0 is gone by then. */
    private static void staying() {
        HushNet x = line(3, 1);
        for (int i = 0; i < 3; i++) x.agent(0, 0);
        x.post(0, 0, 0, 96);
        x.post(1, 2, 0, 96);
        for (int t = 10; t < 30; t++) {
            x.sight(0, t == 20 ? 1 : 0, t);
            x.sight(2, t == 25 ? 1 : 2, t);
        }
        int n = x.count(4);
        promise(32);
        due("since", x.since(0, 1, 11, false, n), 11);
        due("since", x.since(1, 1, 11, false, n), 20);
        due("since", x.since(2, 1, 11, false, n), 25);
        due("since", x.since(2, 1, 21, false, n), 30);
        due("since", x.since(0, 4, 21, false, n), 30);
        due("since", x.since(1, 4, 21, false, n), 25);
        // One that gets it in the tick ahead of the last one has it in the last one.
        x = line(2, 1);
        for (int i = 0; i < 3; i++) x.agent(0, 0);
        x.sight(0, 0, 94);
        x.sight(0, 1, 95);
        x.sight(1, 0, 94);
        x.sight(1, 0, 95);
        x.sight(2, 1, 94);
        x.sight(2, 0, 95);
        n = x.count(4);
        due("since", x.since(2, 1, 94, false, n), 95);
        x.strike(4);
        x.sight(2, 1, 93);
        due("since", x.since(2, 1, 94, false, n + 2), 94);
    }

    private static void touchedOnes() {
        promise(33);
        HushNet x = line(2, 1);
        x.agent(0, 0);
        x.agent(0, 0);
        x.turned(0, 1);
        x.post(0, 1, 0, 96);
        x.sight(0, 0, 0);
        for (int t = 1; t < 96; t++) x.sight(0, 1, t);
        int all = x.count(4);
        due("touched", x.touched(0, all), 0);
        x.turned(0, 0);
        due("touched", x.touched(0, all), 0);
        due("touched", x.touched(0, all + 1), 2);
        x = hunted();
        int n = x.count(4);
        due("touched", x.touched(0, n), -1);
        x.turned(0, 14);
        x.turned(0, 11);
        x.turned(0, 0);
        due("touched", x.touched(0, n + 1), 2);
        due("touched", x.touched(0, n + 2), 2);
        due("touched", x.touched(0, n + 3), 6);
        x.strike(n + 2);
        due("touched", x.touched(0, n + 4), 2);
        due("touched", x.touched(1, n + 4), -1);
        due("touched", x.touched(3, n), -1);
        due("touched", x.touched(-1, n), -1);
        due("touched", x.touched(0, n + 5), -1);
        due("touched", x.touched(0, -1), -1);
    }

    private static void feedings() {
        promise(34);
        HushNet x = hunted();
        int n = x.count(4);
        due("fed", x.fed(7, 3, 11, 13, false, n), 1);
        promise(35);
        due("word", x.word(0), 0);
        due("word", x.word(1), 1);
        promise(34);
        // Alone, by tick 13: agent 0 reaches nobody, agent 1 and agent 2 nobody; with one word all three are in doubt.
        due("fed", x.fed(7, 1, 11, 13, false, n), 3);
        promise(36);
        due("doubt", x.doubt(0), 3);
        due("doubt", x.doubt(1), -1);
        promise(34);
        due("fed", x.fed(7, 2, 11, 13, false, n), 2);
        promise(35);
        due("word", x.word(0), 0);
        due("word", x.word(1), 0);
        due("word", x.word(2), 1);
        due("word", x.word(3), -1);
        due("word", x.word(-1), -1);
        promise(36);
        due("doubt", x.doubt(0), 2);
        due("doubt", x.doubt(1), 1);
        due("doubt", x.doubt(2), -1);
        due("doubt", x.doubt(-1), -1);
        promise(34);
        // What is NONE changes nothing.
        due("fed", x.fed(0, 2, 11, 13, false, n), -1);
        due("fed", x.fed(8, 2, 11, 13, false, n), -1);
        due("fed", x.fed(-1, 2, 11, 13, false, n), -1);
        due("fed", x.fed(7, 0, 11, 13, false, n), -1);
        due("fed", x.fed(7, 4, 11, 13, false, n), -1);
        due("fed", x.fed(7, 3, 11, 10, false, n), -1);
        due("fed", x.fed(7, 3, 11, 96, false, n), -1);
        due("fed", x.fed(7, 3, -1, 10, false, n), -1);
        due("fed", x.fed(7, 3, 11, 13, false, n + 1), -1);
        due("doubt", x.doubt(1), 1);
        due("word", x.word(2), 1);
        // Up to tick 95 agents 0 and 1 share each word; agent 2 keeps its own.
        due("fed", x.fed(7, 2, 11, 95, false, n), 2);
        due("word", x.word(0), 0);
        due("word", x.word(1), 0);
        due("word", x.word(2), 1);
        due("fed", x.fed(6, 3, 11, 95, false, n), 1);
        due("word", x.word(0), -1);
        due("word", x.word(1), 0);
        due("word", x.word(2), 1);
        due("doubt", x.doubt(2), 0);
        // Only suspects count, also where the word goes by others.
        due("fed", x.fed(2, 1, 0, 95, false, n), 1);
        due("doubt", x.doubt(0), 1);
    }

    private static void counts() {
        promise(37);
        HushNet x = line(3, 1);
        x.agent(0, 0);
        feed(x, "code a end");
        due("count", x.count(5), 10);
        x.read();
        x.sight(0, 0, 0);
        x.strike(0);
        int[] all = {3, 2, 1, 1, 2, 0};
        for (int i = 0; i < 6; i++) due("count " + i, x.count(i), all[i]);
        due("count", x.count(6), -1);
        due("count", x.count(-1), -1);
        due("count", x.count(Integer.MIN_VALUE), -1);
    }

    /** What is asked of agents and spots that the latest run had not. */
    private static void lateOnes() {
        HushNet x = line(2, 1);
        x.agent(0, 255);
        x.run(0);
        x.agent(1, 255);
        x.spot();
        promise(16);
        due("where", x.where(1, 0), -1);
        promise(17);
        due("knows", x.knows(1, 0), -1);
        promise(18);
        due("chain", x.chain(1, 0, 0), -1);
        promise(21);
        due("met", x.met(0, 1), -1);
        due("met", x.met(1, 0), -1);
        promise(19);
        due("has", x.has(0, 0), 0);
        due("has", x.has(1, 0), -1);
        promise(22);
        due("ended", x.ended(1), -1);
        promise(23);
        due("deeds", x.deeds(0), 0);
        due("deeds", x.deeds(1), -1);
        promise(20);
        due("left", x.left(2), 0);
        promise(26);
        for (int k = 1; k <= 3; k++) due("falls", x.falls(k), 1);
        promise(27);
        for (int k = 1; k <= 3; k++) due("fallen", x.fallen(k), 1);
        promise(15);
        x.run(0);
        due("where", x.where(1, 0), 1);
        due("knows", x.knows(1, 0), 0);
        due("has", x.has(1, 0), 0);
        due("deeds", x.deeds(1), 0);
        due("falls", x.falls(2), 2);
        due("fallen", x.fallen(2), 3);
        // A run that is not done leaves the latest one.
        x.give(0, -1);
        due("run", x.run(9), -1);
        due("where", x.where(1, 95), 1);
        emptyRun();
        laterMeeting();
    }

    /** A run ahead of all agents has none of them, however many come. */
    private static void emptyRun() {
        HushNet x = new HushNet();
        x.run(0);
        x.spot();
        for (int i = 0; i < 8; i++) x.agent(0, 255);
        promise(19);
        for (int i = 0; i < 8; i++) due("has", x.has(i, 7), -1);
        promise(23);
        for (int i = 0; i < 8; i++) due("deeds", x.deeds(i), -1);
        for (int k = 1; k <= 3; k++) {
            promise(26);
            due("falls", x.falls(k), 0);
            promise(27);
            due("fallen", x.fallen(k), 0);
        }
        promise(26);
        due("falls", x.falls(0), -1);
        due("falls", x.falls(4), -1);
        promise(27);
        due("fallen", x.fallen(4), -1);
        promise(24);
        due("saws", x.saws(), 0);
    }

    /** Of two that met, and one that came later, only the two can be taken. */
    private static void laterMeeting() {
        HushNet x = play(line(1, 1), new int[] {0, 0}, new int[] {0, 0}, "code a meet 1 for 9 end end code b meet 0 for 9 end end");
        x.agent(0, 0);
        promise(26);
        due("falls", x.falls(1), 2);
        due("falls", x.falls(2), 2);
        due("falls", x.falls(3), 2);
        promise(27);
        due("fallen", x.fallen(1), 1);
        due("fallen", x.fallen(2), 3);
        due("fallen", x.fallen(3), 3);
        promise(23);
        due("deeds", x.deeds(1), 1);
        due("deeds", x.deeds(2), -1);
        // The next run has it, too.
        x.run(0);
        promise(26);
        due("falls", x.falls(2), 3);
        promise(27);
        due("fallen", x.fallen(2), 5);
        due("fallen", x.fallen(3), 7);
    }
}
