/** The sentences of the tape and of part II that name an edge, each with a test of its own: bytes, tokens, faults and their places. */
public final class TextEdges extends Kit {
    /** Codes a .. g, and a .. h. */
    private static final String SEVEN = codes("", "", "", "", "", "", "");
    private static final String EIGHT = SEVEN + "code h end ";
    private static final String[] WORDS = {"code", "end", "go", "wait", "till", "mark", "wipe", "write", "leave", "take", "burn", "tell",
            "abort", "do", "loop", "if", "else", "meet", "for", "not", "paper", "knows", "has", "with", "late", "watched"};

    public static void main(String[] args) {
        highestByteFirst();
        eachByteIsItself();
        twoThousandBytes();
        refusedFeedChangesNothing();
        backLastBytes();
        backTooMany();
        backBelowNone();
        tapeEmptyThen();
        emptyTape();
        placeOfLatestRead();
        placeZero();
        longestText();
        longestToken();
        blanks();
        blanksOrNot();
        namesOfEightLetters();
        namesOfAToZ();
        wordsAreNoNames();
        intsOfTwoDigits();
        intsOfDigitsAlone();
        longerOnesWrapAround();
        semicolons();
        emptyCodes();
        codesFromZero();
        optionalElse();
        nots();
        deedsWantTheirParts();
        firstFaultByPlace();
        textsEnd();
        syntaxAheadOfRoom();
        fiveHundredTokens();
        eightCodes();
        sixWithinOneAnother();
        blocksBesideOneAnother();
        laterFaultsOnlyAlone();
        nameTwice();
        doNoCode();
        wrongSpots();
        wrongTicks();
        wrongMarks();
        wrongSecrets();
        wrongAgents();
        firstOfLaterFaults();
        faultChangesNothing();
        faultLeavesNothing();
        codesInPlace();
        finish("TextEdges");
    }

    // ---- The tape ----
    private static void highestByteFirst() {
        says("2: Twenty bytes, the highest of a first, come behind the tape");
        for (int p = 0; p < 20; p++) {
            HushNet x = new HushNet();
            int[] v = {0x20202020, 0x20202020, 0x20202020, 0x20202020, 0x20202020};
            v[p / 4] = v[p / 4] & ~(255 << 24 - p % 4 * 8) | '#' << 24 - p % 4 * 8;
            due("feed", x.feed(0x20202020, 0x20202020, 0x20202020, 0x20202020, 0x20202020), 20);
            due("feed", x.feed(v[0], v[1], v[2], v[3], v[4]), 40);
            due("read", x.read(), 1);
            due("place", x.place(), 20 + p);
        }
    }

    private static void eachByteIsItself() {
        says("2: Twenty bytes (0 .. 255, in the highest of an int, too)");
        for (int b = 0; b < 256; b++) {
            boolean blank = b == 9 || b == 10 || b == 13 || b == 32;
            HushNet x = new HushNet();
            x.feed(b << 24 | 0x202020, 0x20202020, 0x20202020, 0x20202020, 0x20202000 | b);
            due("read of byte " + b, x.read(), blank ? 0 : 1);
            due("place of byte " + b, x.place(), blank ? -1 : 0);
        }
        HushNet x = new HushNet();
        due("feed", x.feed(-1, MIN, MAX, -1, -1), 20);
        due("read", x.read(), 1);
    }

    private static void twoThousandBytes() {
        says("2: NONE, and nothing comes, if it would have more than 2,000");
        HushNet x = new HushNet();
        for (int i = 1; i <= 100; i++) due("feed", x.feed(0, 0, 0, 0, 0), 20 * i);
        due("feed", x.feed(0, 0, 0, 0, 0), -1);
        due("back", x.back(19), 1981);
        due("feed", x.feed(0, 0, 0, 0, 0), -1);
        due("back", x.back(1), 1980);
        due("feed", x.feed(0, 0, 0, 0, 0), 2000);
    }

    private static void refusedFeedChangesNothing() {
        says("2: NONE, and nothing comes");
        HushNet x = new HushNet();
        for (int i = 0; i < 100; i++) x.feed(0x20202020, 0x20202020, 0x20202020, 0x20202020, 0x20202020);
        x.back(1);
        due("feed", x.feed(0x23232323, 0x23232323, 0x23232323, 0x23232323, 0x23232323), -1);
        due("count", x.count(5), 1999);
        due("read", x.read(), 0);
    }

    private static void backLastBytes() {
        says("3: The last n bytes of the tape go: how many it has");
        HushNet x = new HushNet();
        feed(x, "code a end #########");
        due("back none", x.back(0), 20);
        due("back", x.back(9), 11);
        due("count", x.count(5), 11);
        feed(x, "code b end");
        due("read", x.read(), 0);
        due("codes", x.count(3), 2);
        feed(x, "#");
        due("back all", x.back(1), 0);
        due("read", x.read(), 0);
    }

    private static void backTooMany() {
        says("3: NONE, and nothing goes, if it has not so many");
        HushNet x = new HushNet();
        due("back of nothing", x.back(1), -1);
        feed(x, "code a end");
        for (int n : new int[] {11, 12, 20, 2001, MAX}) due("back(" + n + ")", x.back(n), -1);
        due("count", x.count(5), 10);
        due("read", x.read(), 0);
        due("codes", x.count(3), 1);
    }

    private static void backBelowNone() {
        says("3: NONE, and nothing goes, if n is below 0");
        HushNet x = new HushNet();
        due("back of nothing", x.back(-1), -1);
        feed(x, "code a end #");
        x.back(2);
        for (int n : new int[] {-1, -2, -20, MIN}) due("back(" + n + ")", x.back(n), -1);
        due("count", x.count(5), 10);
        due("read", x.read(), 0);
    }

    private static void tapeEmptyThen() {
        says("4: The tape, which is empty then, is read");
        HushNet x = new HushNet();
        due("read", read(x, "   ?"), 1);
        due("count", x.count(5), 0);
        due("back", x.back(1), -1);
        due("read", read(x, "code a end"), 0);
        due("count", x.count(5), 0);
        due("feed", x.feed(0x20202020, 0x20202020, 0x20202020, 0x20202020, 0x20202023), 20);
        due("read", x.read(), 1);
        due("place", x.place(), 19);
    }

    private static void emptyTape() {
        says("II: text: {..} (none)");
        HushNet x = new HushNet();
        due("read", x.read(), 0);
        due("place", x.place(), -1);
        due("codes", x.count(3), 0);
        sound("");
        sound(" ");
        sound(times(" \t\r\n", 500));
    }

    private static void placeOfLatestRead() {
        says("5: The byte of the latest read()'s FAULT; NONE without");
        HushNet x = new HushNet();
        due("place ahead of all", x.place(), -1);
        read(x, "code ;");
        due("place", x.place(), 5);
        feed(x, "code a end");
        x.back(1);
        due("place", x.place(), 5);
        read(x, "d");
        due("place", x.place(), -1);
        read(x, " x");
        due("place", x.place(), 1);
        x.read();
        due("place", x.place(), -1);
    }

    private static void placeZero() {
        says("5: The byte of the FAULT (0), and none");
        faulty("#", 1, 0);
        faulty("end", 1, 0);
        faulty("codes", 1, 0);
        faulty("0", 1, 0);
    }

    // ---- Tokens ----
    private static void longestText() {
        says("II: a text of at most 2,000 bytes");
        String head = "code a" + times(" ", 1991);
        sound(head + "end");
        faulty(head + "enx", 1, 1997);
        faulty(head + "en", 1, 1997);
        faulty("code a end" + times(" ", 1989) + ";", 1, 1999);
        faulty("code a" + times("\n", 1994), 1, 2000);
        faulty("code a go" + times(" ", 1990) + "1", 1, 2000);
    }

    private static void longestToken() {
        says("II: TOKENS, the longest that can be");
        sound("code endx end");
        sound("code xend end");
        sound("code codea end");
        sound("code goto end");
        faulty("codea end", 1, 0);
        faulty("code a endend", 1, 7);
        faulty("code a gox 1; end", 1, 7);
        faulty("code a if notwatched end end", 1, 10);
        faulty("code a if watche end end", 1, 10);
        faulty("code a go 1 2; end", 1, 12);
        // 96 and not 9: the longest.
        faulty("code a wait 96; end", 5, 12);
    }

    private static void blanks() {
        says("II: blanks (9, 10, 13, 32)");
        for (int b = 0; b < 256; b++) {
            boolean blank = b == 9 || b == 10 || b == 13 || b == 32;
            HushNet x = new HushNet();
            boolean letter = b >= 'a' && b <= 'z';
            if (letter) continue;
            due("read with byte " + b, read(x, "code a" + (char) b + "end"), blank ? 0 : 1);
            due("place with byte " + b, x.place(), blank ? -1 : 6);
        }
        sound("\tcode\na\rgo 1\t;\nend\r");
    }

    private static void blanksOrNot() {
        says("II: with blanks between or not");
        sound("code a go1;wait2;abort;loop3if not watched end end meet4for5else end end");
        sound("  code  a  go  1  ;  wait  2  ;  end  ");
        sound("code a go\n1\n;end code b do\ta;end");
    }

    private static void namesOfEightLetters() {
        says("II: NAMES (letters a .. z, 8 at most)");
        sound("code a end");
        sound("code abcdefgh end");
        faulty("code abcdefghi end", 1, 5);
        faulty("code abcdefghij end", 1, 5);
        sound("code zzzzzzzz end code zzzzzzzy do zzzzzzzz; end code azzzzzzz do zzzzzzzy; end");
        faulty("code zzzzzzzz end code b do zzzzzzzzz; end", 1, 28);
        // Alike but for the eighth letter, or for the first.
        sound("code aaaaaaaa end code aaaaaaab end code baaaaaaa end code aaaaaaa end");
        // Alike if a letter were told by four bits, or a name by the sum of its letters.
        sound("code r end code ab end code q end code aa end code ba end code c end");
        faulty("code aaaaaaaa end code aaaaaaab do aaaaaaac; end", 4, 35);
    }

    private static void namesOfAToZ() {
        says("II: NAMES (letters a .. z)");
        sound("code az end");
        faulty("code `a end", 1, 5);
        faulty("code {a end", 1, 5);
        faulty("code A end", 1, 5);
        faulty("code Z end", 1, 5);
        faulty("code aA end", 1, 6);
        faulty("code a1 end", 1, 6);
        faulty("code a_b end", 1, 6);
        faulty("code a" + (char) ('a' + 128) + " end", 1, 6);
    }

    private static void wordsAreNoNames() {
        says("II: NAMES (none of the words in quotes)");
        for (String w : WORDS) {
            faulty("code " + w + " end", 1, 5);
            faulty("code a end code b do " + w + "; end", 1, 21);
            if (w.length() < 8) sound("code " + w + "x end");
            sound("code " + w.substring(1) + "q end");
        }
        sound("code text end code deed end code test end code name end code int end");
    }

    private static void intsOfTwoDigits() {
        says("II: INTS (1 or 2 digits)");
        sound("code a wait 0; wait 9; wait 00; wait 09; wait 95; end");
        for (String i : new String[] {"000", "001", "010", "100", "0000000000", "9999999999"}) faulty("code a wait " + i + "; end", 1, 12);
        faulty("code a meet 1 for 010 end end", 1, 18);
        faulty("code a if mark 001 end end", 1, 15);
        HushNet x = line(2, 1);
        x.agent(0, 0);
        read(x, codes("wait 09; go 01;"));
        x.give(0, 0);
        x.run(0);
        due("ended", x.ended(0), 10);
    }

    private static void intsOfDigitsAlone() {
        says("II: INTS (digits)");
        for (String i : new String[] {"/", ":", "-1", "+1", "" + (char) ('0' + 128)}) faulty("code a wait " + i + "; end", 1, 12);
        faulty("code a wait 1/; end", 1, 13);
        faulty("code a wait 1:; end", 1, 13);
        faulty("code a wait 1.5; end", 1, 13);
        faulty("code a wait x; end", 1, 12);
    }

    private static void longerOnesWrapAround() {
        says("II: A longer one is no TOKEN (however long)");
        // As a number of 32 bits, of 64, each of these is 1; as five or eight bits a letter these names and words are short ones.
        faulty("code a wait 4294967297; end", 1, 12);
        faulty("code a wait 18446744073709551617; end", 1, 12);
        faulty("code a wait 1" + times("0", 100) + "; end", 1, 12);
        for (int zeros = 1; zeros < 40; zeros++) faulty("code a wait " + times("0", zeros) + "95; end", 1, 12);
        for (int n = 9; n < 60; n++) faulty("code " + times("a", n) + " end", 1, 5);
        for (int n = 5; n < 60; n++) {
            String filler = times("z", n);
            faulty("code a end " + filler + "code b end", 1, 11);
            faulty("code a " + filler + "go 1; end", 1, 7);
        }
        faulty("code " + times("a", 1900), 1, 5);
        faulty("code a wait " + times("1", 1900), 1, 12);
    }

    private static void semicolons() {
        says("II: SIGNS ;");
        faulty("code a ; end", 1, 7);
        faulty("code a go 1;; end", 1, 12);
        faulty("code a end;", 1, 10);
        faulty("code a go 1, end", 1, 11);
        faulty("code a go 1. end", 1, 11);
        faulty("code a go 1: end", 1, 11);
        faulty(";", 1, 0);
        faulty(".", 1, 0);
    }

    // ---- The text ----
    private static void emptyCodes() {
        says("II: {DEED} (none)");
        sound("code a end");
        sound("code a loop 3 end end");
        sound("code a if watched end end");
        sound("code a if watched else end end");
        sound("code a meet 1 for 2 end end");
        sound("code a meet 1 for 2 else end end");
    }

    private static void codesFromZero() {
        says("II: CODES are numbered from 0 on");
        HushNet x = line(1, 1);
        x.agent(0, 0);
        read(x, codes("mark 0;", "mark 1;", "mark 2;", "mark 3;", "", "", "", "mark 0; mark 3;"));
        due("codes", x.count(3), 8);
        int[] marks = {1, 2, 4, 8, 0, 0, 0, 9};
        for (int c = 0; c < 8; c++) {
            due("give", x.give(0, c), true);
            x.run(0);
            due("left", x.left(0), marks[c]);
        }
        due("give", x.give(0, 8), false);
    }

    private static void optionalElse() {
        says("II: ['else' {DEED}] (once, in if and meet alone)");
        faulty("code a else end", 1, 7);
        faulty("code a else end end", 1, 7);
        faulty("code a loop 1 else end end", 1, 14);
        faulty("code a if watched else else end end", 1, 23);
        faulty("code a meet 1 for 2 else else end end", 1, 25);
        faulty("code a if watched loop 1 else end end end", 1, 25);
        faulty("code a if watched end else end end", 1, 22);
        sound("code a if watched if watched else end else end end");
        sound("code a loop 1 if watched else end end end");
        sound("code a if watched else if watched else end end end");
    }

    private static void nots() {
        says("II: TEST: {'not'} (none or many)");
        HushNet x = alone("if late 0 mark 0; end if not late 0 mark 1; end if not not late 0 mark 2; end if not not not late 0 mark 3; end");
        due("left", x.left(0), 1 + 4);
        sound("code a if " + times("not ", 400) + "watched end end");
        faulty("code a if not end end", 1, 14);
        faulty("code a if mark not 1 end end", 1, 15);
    }

    private static void deedsWantTheirParts() {
        says("II: DEED (each part of it)");
        for (String w : new String[] {"go", "wait", "till", "mark", "wipe", "write", "leave", "take", "burn", "tell"}) {
            int behind = 7 + w.length();
            faulty("code a " + w + "; end", 1, behind);
            faulty("code a " + w + " end", 1, behind + 1);
            faulty("code a " + w + " 1 end", 1, behind + 3);
            faulty("code a " + w + " x; end", 1, behind + 1);
            sound("code a " + w + " 1; end");
        }
        faulty("code a abort end", 1, 13);
        faulty("code a abort 1; end", 1, 13);
        faulty("code a do ; end", 1, 10);
        faulty("code a do 1; end", 1, 10);
        faulty("code a do b end", 1, 12);
        faulty("code a loop end end", 1, 12);
        faulty("code a loop 1; end end", 1, 13);
        faulty("code a meet end end", 1, 12);
        faulty("code a meet 1 end end", 1, 14);
        faulty("code a meet 1 for end end", 1, 18);
        faulty("code a if end end", 1, 10);
        for (String t : new String[] {"mark", "paper", "knows", "has", "with", "late"}) {
            faulty("code a if " + t + " end end", 1, 11 + t.length());
            sound("code a if " + t + " 1 end end");
        }
        faulty("code a if watched 1 end end", 1, 18);
        faulty("code a paper 1; end", 1, 7);
        faulty("code a for 1; end", 1, 7);
    }

    // ---- Faults ----
    private static void firstFaultByPlace() {
        says("II: FAULTS, the first by its place (a byte)");
        faulty("code a x code b y", 1, 7);
        faulty("code a # end #", 1, 7);
        faulty(EIGHT + "code i x", 2, EIGHT.length());
        faulty("code a x end " + EIGHT, 1, 7);
        faulty(begun(500) + "go x", 2, begun(500).length());
        faulty(begun(499) + "x go", 1, begun(499).length());
    }

    private static void textsEnd() {
        says("II: the text's end: its length");
        String text = "code a loop 1 if not mark 2 meet 3 for 4 do b; abort; else end else end end";
        for (int n = 1; n < text.length(); n++) {
            String part = text.substring(0, n).trim();
            if (text.charAt(n) == ' ') {
                faulty(part, 1, part.length());
                faulty(part + "\n ", 1, part.length() + 2);
            }
        }
    }

    private static void syntaxAheadOfRoom() {
        says("II: of one place the least");
        // The 501st token, and one with which no text goes on.
        String full = begun(500);
        for (String token : new String[] {"x", "else", "code", "#", ";", "7", ""}) faulty(full + token, 1, full.length());
        faulty(begun(499) + "end ;", 1, begun(499).length() + 4);
        // What could not be a 9th code's first token.
        faulty(EIGHT + "end", 1, EIGHT.length());
        faulty(EIGHT + "codes", 1, EIGHT.length());
        // What could be no 7th block's first token.
        String six = "code a " + times("loop 1 ", 6);
        faulty(six + "else", 1, six.length());
        faulty(six + "loops", 1, six.length());
    }

    private static void fiveHundredTokens() {
        says("II: ROOM: a 501st TOKEN");
        sound(begun(499) + "end");
        sound(begun(499) + "end \r\n");
        sound(begun(492) + "end code b loop 1 end end");
        faulty(begun(499) + "go", 1, begun(499).length() + 2);
        // In each kind of place: a deed's first token, a code's, an INT, a name, for, a semicolon, not, a test, else, end.
        for (String deed : new String[] {"go", "wait", "till", "mark", "wipe", "write", "leave", "take", "burn", "tell", "abort", "do",
                "loop", "if", "meet", "end"}) {
            roomAtLast(deed);
        }
        for (String tail : new String[] {"end code", "end code b", "end code b go", "end code b end", "go 1", "go 1 ;", "abort ;",
                "do a", "do a ;", "loop 1", "loop 1 end", "if not", "if not not", "if mark", "if watched", "if watched end",
                "if watched else", "if watched else end", "if mark 1", "if mark 1 else", "meet 1", "meet 1 for", "meet 1 for 1",
                "meet 1 for 1 else", "meet 1 for 1 end", "meet 1 for 1 go"}) {
            roomAtLast(tail);
        }
    }

    /** An open code's first tokens, so many, each deed told wholly. */
    private static String begun(int tokens) {
        int pairs = (tokens - 2) % 3 * 2 % 3;
        return "code a " + times("go 1;", (tokens - 2 - 2 * pairs) / 3) + times("abort;", pairs);
    }

    /** The last of these tokens, with blanks between, is the 501st; one fewer ahead, and it has room. */
    private static void roomAtLast(String tail) {
        int tokens = tail.split(" ").length;
        String text = begun(501 - tokens) + tail;
        faulty(text, 2, text.length() - tail.length() + tail.lastIndexOf(' ') + 1);
        String shorter = begun(500 - tokens) + tail;
        if (tail.equals("end") || tail.endsWith("b end")) sound(shorter);
        else faulty(shorter, 1, shorter.length());
    }

    private static void eightCodes() {
        says("II: ROOM: a 9th code (at its first TOKEN)");
        sound(EIGHT);
        faulty(EIGHT + "code", 2, EIGHT.length());
        faulty(EIGHT + "code i end", 2, EIGHT.length());
        faulty(EIGHT + " \n code i end", 2, EIGHT.length() + 3);
        faulty(EIGHT + "code 9", 2, EIGHT.length());
        faulty(EIGHT + "code a end", 2, EIGHT.length());
    }

    private static void sixWithinOneAnother() {
        says("II: ROOM: a 7th loop, if, meet within one another");
        String[] heads = {"loop 1 ", "if watched ", "meet 1 for 1 "};
        for (String outer : heads) {
            String six = "code a " + times(outer, 6);
            sound(six + times("end ", 7));
            sound(six + "go 1; " + times("end ", 7));
            for (String head : heads) faulty(six + head + times("end ", 8), 2, six.length());
        }
        String inElse = "code a " + times("if watched else meet 1 for 1 else ", 3);
        sound(inElse + times("end ", 7));
        faulty(inElse + "loop 1 " + times("end ", 8), 2, inElse.length());
        faulty(inElse + "loop", 2, inElse.length());
    }

    private static void blocksBesideOneAnother() {
        says("II: ROOM: within one another (not one behind the other)");
        sound("code a " + times("loop 1 end ", 20) + "end");
        String six = times("loop 1 ", 6) + times("end ", 6);
        sound("code a " + six + six + "end code b " + six + "end");
        String five = "code a " + times("if watched ", 5) + "loop 1 end loop 2 end else loop 3 end " + times("end ", 6);
        sound(five);
        // A code that is done within six blocks has its own.
        sound("code b " + six + "end code a " + times("loop 1 ", 6) + "do b; " + times("end ", 7));
    }

    private static void laterFaultsOnlyAlone() {
        says("II: If there is none, likewise: 3, 4, 5");
        faulty("code a go 99; do z; end code a end #", 1, 35);
        faulty("code j go 99; end " + EIGHT, 2, 18 + SEVEN.length());
        faulty("code a do a; " + times("loop 1 ", 7), 2, 13 + 42);
        faulty("code a go 99; end code", 1, 22);
        faulty("code a go 99", 1, 12);
    }

    private static void nameTwice() {
        says("II: 3 TWICE: a code's NAME told already");
        faulty("code a end code a end", 3, 16);
        faulty("code ab end code a end code ab end", 3, 28);
        faulty(SEVEN + "code a end", 3, SEVEN.length() + 5);
        faulty(SEVEN + "code g end", 3, SEVEN.length() + 5);
        sound("code a end code aa end code aaa end");
        // Of the text ahead it does not count.
        HushNet x = new HushNet();
        due("read", read(x, "code a end"), 0);
        due("read", read(x, "code a end"), 0);
        due("read", read(x, "code a end code a end"), 3);
        due("read", read(x, "code a end"), 0);
    }

    private static void doNoCode() {
        says("II: 4 NAME: do's: no code told wholly ahead");
        faulty("code a do a; end", 4, 10);
        faulty("code a do b; end code b end", 4, 10);
        faulty("code a end code b do c; end code c end", 4, 21);
        faulty("code a end code b do b; end", 4, 21);
        sound("code a end code b do a; end");
        sound(SEVEN + "code h do a; do b; do c; do d; do e; do f; do g; end");
        // Codes of the text ahead do not count.
        HushNet x = new HushNet();
        due("read", read(x, "code z end"), 0);
        due("read", read(x, "code a do z; end"), 4);
        due("place", x.place(), 10);
    }

    private static void wrongOf(String head, int most, String tail) {
        sound("code q " + head + most + tail + " end");
        sound("code q " + head + 0 + tail + " end");
        faulty("code q " + head + (most + 1) + tail + " end", 5, 7 + head.length());
        faulty("code q " + head + 99 + tail + " end", 5, 7 + head.length());
    }

    private static void wrongSpots() {
        says("II: 5 WRONG: a SPOT 0 .. 9");
        wrongOf("go ", 9, ";");
    }

    private static void wrongTicks() {
        says("II: 5 WRONG: a TICK 0 .. 95 (till, late), wait's, loop's, for's 0 .. 95");
        wrongOf("till ", 95, ";");
        wrongOf("if late ", 95, " end");
        wrongOf("if not late ", 95, " end");
        wrongOf("wait ", 95, ";");
        wrongOf("loop ", 95, " end");
        wrongOf("meet 0 for ", 95, " end");
    }

    private static void wrongMarks() {
        says("II: 5 WRONG: a MARK (0 .. 3)");
        wrongOf("mark ", 3, ";");
        wrongOf("wipe ", 3, ";");
        wrongOf("if mark ", 3, " end");
    }

    private static void wrongSecrets() {
        says("II: 5 WRONG: a SECRET (0 .. 7)");
        for (String w : new String[] {"write ", "leave ", "take ", "burn ", "tell "}) wrongOf(w, 7, ";");
        for (String t : new String[] {"if paper ", "if knows ", "if has "}) wrongOf(t, 7, " end");
    }

    private static void wrongAgents() {
        says("II: 5 WRONG: an AGENT 0 .. 7");
        wrongOf("meet ", 7, " for 0 end");
        wrongOf("if with ", 7, " end");
    }

    private static void firstOfLaterFaults() {
        says("II: likewise (the first by its place)");
        faulty("code a go 10; end code a do z; end", 5, 10);
        faulty("code a end code a do z; go 10; end", 3, 16);
        faulty("code a do z; go 10; end code a end", 4, 10);
        faulty("code a meet 8 for 96 end end", 5, 12);
        faulty("code a meet 7 for 96 end meet 8 for 1 end end", 5, 18);
    }

    private static void faultChangesNothing() {
        says("II: A text with a FAULT changes nothing");
        String[] texts = {"code b mark 3; end code c end #", EIGHT + "code i end", "code b end code b mark 3; end", "code b do c; end", "code b mark 4; end"};
        for (int fault = 1; fault <= 5; fault++) {
            HushNet x = alone("mark 1;");
            due("read", read(x, texts[fault - 1]), fault);
            due("codes", x.count(3), 1);
            due("where of the run ahead", x.where(0, 0), 0);
            x.run(0);
            due("left", x.left(0), 2);
            due("deeds", x.deeds(0), 1);
            due("give", x.give(0, 1), false);
        }
    }

    private static void faultLeavesNothing() {
        says("II: A text with a FAULT changes nothing (for the next text)");
        String[] faults = {"code b " + times("loop 1 ", 6) + "#", "code a", "code a code", EIGHT + "code", begun(500) + "go", "code q do q; end", "code q go 10; end", "code a if not", "code b end code b end"};
        for (String fault : faults) {
            HushNet x = new HushNet();
            due("read() of a fault", read(x, fault) != 0, true);
            due("read", read(x, "code b " + times("if watched ", 6) + times("end ", 6) + "end code a do b; end"), 0);
            due("place", x.place(), -1);
            due("codes", x.count(3), 2);
        }
        // Text after text, each with as many tokens as there can be.
        HushNet x = line(1, 1);
        x.agent(0, 0);
        for (int i = 0; i < 4; i++) due("read", read(x, begun(499) + "end"), 0);
        for (int i = 0; i < 4; i++) due("read", read(x, EIGHT), 0);
        due("codes", x.count(3), 8);
        due("read", read(x, codes("mark 0;", "mark 2; mark 3;")), 0);
        due("give", x.give(0, 1), true);
        x.run(0);
        due("left", x.left(0), 4 + 8);
        due("deeds", x.deeds(0), 2);
    }

    private static void codesInPlace() {
        says("II: else its CODES are in place of those ahead, and no AGENT has one");
        HushNet x = together("mark 0;", "mark 1;");
        due("left", x.left(0), 3);
        due("read", read(x, "code b mark 2; end"), 0);
        due("codes", x.count(3), 1);
        x.run(0);
        due("left", x.left(0), 0);
        due("deeds", x.deeds(0), 0);
        due("ended", x.ended(1), 0);
        due("give", x.give(0, 1), false);
        due("give", x.give(1, 0), true);
        x.run(0);
        due("left", x.left(0), 4);
        // An empty text has no codes at all.
        due("read", x.read(), 0);
        due("codes", x.count(3), 0);
        due("give", x.give(1, 0), false);
        x.run(0);
        due("left", x.left(0), 0);
    }
}
