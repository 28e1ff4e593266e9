/** Houses and images that several tests use. */
final class Scenes {
    /** One tune that stays as it is told. */
    static final String STILL = "note old when all; ";
    /**
     * 216 unlike WHISTLES one behind the other, each with one note one more than the one ahead of it:
     * told by the digits of WHISTLE n to the base 6 (grayNumber says how).
     */
    static final String GRAY = "notes 6 long 3; tune a 0 0 0 keep 0; place 2 when sum%6<5; place 1 when (sum-last)%6<5; ";
    private static final int NONE = TuneDoor.NONE;

    private Scenes() {
    }

    /** The number of GRAY's WHISTLE n. */
    static int grayNumber(int n) {
        int high = n / 36 % 6;
        int middle = n / 6 % 6;
        int low = n % 6;
        return 36 * high + 6 * Math.floorMod(middle - high, 6) + Math.floorMod(low - middle, 6);
    }

    /** In how many of three notes two tunes of GRAY, by their numbers, are unlike. */
    static int unlike(int number, int other) {
        return (number / 36 == other / 36 ? 0 : 1) + (number / 6 % 6 == other / 6 % 6 ? 0 : 1) + (number % 6 == other % 6 ? 0 : 1);
    }

    static TuneDoor gray(String kind, int loses) {
        return Check.told(GRAY + "door d " + kind + "; person p door d tune a loses " + loses + " errs 0;");
    }

    static TuneDoor gray(String kind) {
        return gray(kind, 0);
    }

    /** GRAY with its one PERSON at a COUNT, and its one EAR as told. */
    static TuneDoor gray(String kind, int person, int count, int half, int tries) {
        TuneDoor x = gray(kind);
        put(x, person, count, half, tries);
        return x;
    }

    static void put(TuneDoor x, int person, int count, int half, int tries) {
        boolean is = on(x, person >> 8, person & 255, count >> 8, count & 255, half + 1 >> 8, half + 1 & 255, tries);
        if (!is) {
            throw new IllegalStateException("no image");
        }
    }

    /** GRAY with PERSON and EAR at COUNTS, nothing HALF heard, no TRIES. */
    static TuneDoor gray(String kind, int person, int count) {
        return gray(kind, person, count, NONE, 0);
    }

    /** A tune of three notes by its number to the base 6, put on the tape. */
    static void tapeNumber(TuneDoor x, int number) {
        Check.tape(x, number / 36, number / 6 % 6, number % 6);
    }

    /** The tape is these bytes and the one that must stand behind them. */
    static boolean on(TuneDoor x, int... bytes) {
        int[] whole = java.util.Arrays.copyOf(bytes, bytes.length + 1);
        int check = 33;
        for (int octet : bytes) {
            check = (7 * check + octet) % 241;
        }
        whole[bytes.length] = check;
        Check.tape(x, whole);
        return x.on();
    }

    /** So many zeros but for places and what stands there. */
    static int[] zerosBut(int size, int... pairs) {
        int[] bytes = new int[size];
        for (int i = 0; i < pairs.length; i += 2) {
            bytes[pairs[i]] = pairs[i + 1];
        }
        return bytes;
    }

    /** All that calls may change, but for THE SEED, the tape and REFUSALS; it writes an image. */
    static String state(TuneDoor x) {
        StringBuilder all = new StringBuilder();
        for (int what = 0; what < 10; what++) {
            all.append(x.has(what)).append(' ');
        }
        for (int i = 0; i < 4; i++) {
            for (int what = 0; what < 7; what++) {
                all.append(x.person(i, what)).append(' ');
            }
            for (int what = 0; what < 4; what++) {
                all.append(x.door(i, what)).append(' ').append(x.opened(i, what)).append(' ');
            }
            all.append(x.letter(0, i, 0)).append(x.letter(1, i, 0)).append(x.letter(2, i, 0)).append(' ');
            all.append(x.note(i, 0, NONE)).append(' ').append(x.note(i, 7, NONE)).append(' ').append(x.note(i, 999, -2)).append('\n');
        }
        int size = x.image();
        for (int k = 0; k < size; k++) {
            all.append(x.octet(k)).append(' ');
        }
        return all.toString();
    }

    /** THE SEED and its DRAWS, as the document tells them. */
    static final class Draws {
        long seed;

        Draws(long first) {
            seed = first;
        }

        int of(int n) {
            seed = (1103515245L * seed + 12345L) % (1L << 31);
            return (int) (seed / 64 % n);
        }
    }
}
