import java.util.NoSuchElementException;

/** Calls with any arguments in any state: nothing but saw's own exception may ever come out, and the same calls answer alike. */
public final class AnyCalls {
    private static final int[] ODD = {Integer.MIN_VALUE, Integer.MIN_VALUE + 1, -100, -2, -1, 0, 1, 2, 3, 4, 5, 6, 7, 8, 9, 10, 11, 23,
            24, 31, 32, 33, 63, 64, 94, 95, 96, 97, 127, 128, 149, 150, 151, 255, 256, 511, 768, 2000, 2001, Integer.MAX_VALUE - 1,
            Integer.MAX_VALUE};
    private static long seed;

    private static int pick(int n) {
        seed = seed * 6364136223846793005L + 1442695040888963407L;
        return (int) ((seed >>> 33) % n);
    }

    private static int any() {
        return pick(4) == 0 ? ODD[pick(ODD.length)] : pick(pick(2) == 0 ? 4 : 12);
    }

    private static int four(String text) {
        int v = 0;
        for (int i = 0; i < 4; i++) v = v << 8 | text.charAt(i);
        return v;
    }

    private static long call(HushNet x) {
        switch (pick(44)) {
            case 0: case 38: case 39:
                // Pieces of four bytes that often make a text.
                String[] bits = {"code", " a  ", "end ", "go 1", ";   ", "wait", " 1; ", "if  ", "not ", "late", " 3  ", "meet",
                        " 0  ", "for ", " 9  ", "tell", " 0; ", "loop", "else", "mark", "take", " b  "};
                return x.feed(four(bits[pick(22)]), four(bits[pick(22)]), four(bits[pick(22)]), four(bits[pick(22)]),
                        pick(9) == 0 ? any() : four(bits[pick(22)]));
            case 1:
                return x.back(any());
            case 2:
                return x.read();
            case 3:
                return x.place();
            case 4: case 40:
                return x.spot();
            case 5: case 41:
                return x.way(any(), any(), any());
            case 6: case 42:
                return x.agent(any(), any());
            case 7:
                return x.give(any(), any()) ? 1 : 0;
            case 8: case 43:
                return x.post(any(), any(), any(), any());
            case 9:
                return x.sight(any(), any(), any());
            case 10:
                return x.turned(any(), any());
            case 11:
                return x.strike(any());
            case 12:
                return x.distance(any(), any());
            case 13:
                return x.run(any());
            case 14:
                return x.where(any(), any());
            case 15:
                return x.knows(any(), any());
            case 16:
                return x.chain(any(), any(), any());
            case 17:
                return x.has(any(), any());
            case 18:
                return x.left(any());
            case 19:
                return x.met(any(), any());
            case 20:
                return x.ended(any());
            case 21:
                return x.deeds(any());
            case 22:
                return x.saws();
            case 23:
                try {
                    return x.saw(any());
                } catch (NoSuchElementException e) {
                    return -9;
                }
            case 24:
                return x.falls(any());
            case 25:
                return x.fallen(any());
            case 26:
                return x.struck(any(), any());
            case 27:
                return x.canBe(any(), any(), any(), any());
            case 28:
                return x.fits(any(), any());
            case 29: case 30:
                return x.could(any(), any(), any(), pick(2) == 0, any());
            case 31: case 32:
                return x.since(any(), any(), any(), pick(2) == 0, any());
            case 33:
                return x.touched(any(), any());
            case 34: case 35:
                return x.fed(any(), any(), any(), any(), pick(2) == 0, any());
            case 36:
                return x.word(any()) * 100 + x.doubt(any());
            default:
                return x.count(any());
        }
    }

    private static long sum(int round) {
        seed = round * 104729L + 3;
        HushNet x = new HushNet();
        long sum = 0;
        for (int i = 0; i < 512; i++) sum = sum * 31 + call(x);
        return sum;
    }

    public static void main(String[] args) {
        int wrong = 0;
        for (int round = 0; round < 1500; round++) {
            try {
                if (sum(round) != sum(round)) {
                    wrong++;
                    System.out.println("round " + round + ": the same calls answered otherwise");
                }
            } catch (RuntimeException e) {
                wrong++;
                System.out.println("round " + round + ": " + e + " at " + e.getStackTrace()[0]);
            }
        }
        wrong += full();
        System.out.println("AnyCalls: " + wrong + " wrong");
        if (wrong != 0) System.exit(1);
    }

    /** All that there can be at most, and every question about it. */
    private static int full() {
        try {
            HushNet x = new HushNet();
            for (int i = 0; i < 10; i++) x.spot();
            for (int i = 0; i < 24; i++) x.way(i % 10, (i * 7 + 3 + i / 10) % 10, 1 + i % 9);
            for (int i = 0; i < 8; i++) x.agent(9 - i, 255 >> i);
            for (int i = 0; i < 150; i++) x.sight(i % 8, i % 10, i % 96);
            for (int i = 0; i < 8; i++) {
                x.strike(i);
                x.touched(i, 150);
                x.since(i, 255, 0, true, 20);
                x.fits(i, 150);
                x.canBe(i, 9, 95, 8);
            }
            x.run(150);
            x.fed(255, 3, 0, 95, true, 9);
            x.could(255, 95, 95, true, 0);
            x.falls(3);
            x.fallen(3);
            return 0;
        } catch (RuntimeException e) {
            System.out.println("full: " + e + " at " + e.getStackTrace()[0]);
            return 1;
        }
    }
}
