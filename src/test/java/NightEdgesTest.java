/** Boundary cases, sentence by sentence: nights, images and REFUSALS (promises 34 to 39, Terms III). */
public final class NightEdgesTest {
    private static final int NONE = TuneDoor.NONE;
    private static final Check CHECK = new Check();
    private static final String PERSON = " loses %d errs %d;";

    public static void main(String[] args) {
        nightsAsked();
        seedAtFirst();
        seedsAsked();
        drawnNights();
        wrongNotes();
        losesAndErrs();
        nightsAtTheEnd();
        imageSizes();
        imageBytes();
        octetsAsked();
        imageTold();
        imageStays();
        imageRefused();
        imageWithoutNotes();
        refusals();
        manyCalls();
        CHECK.close();
    }

    private static void due(String call, long got, long want) {
        CHECK.due(call, got, want);
    }

    private static void due(String call, boolean got, boolean want) {
        CHECK.due(call, got, want);
    }

    // ---- promise 34

    private static void nightsAsked() {
        CHECK.sentence("n NIGHTS (1 .. 60): how often somebody was let in; NONE if it can't be, or without PERSONS.");
        TuneDoor x = Scenes.gray("strict");
        String state = Scenes.state(x);
        int[] refused = {0, 61, -1, Integer.MIN_VALUE, Integer.MAX_VALUE};
        for (int n : refused) {
            due("nights " + n, x.nights(n), NONE);
        }
        due("nothing was done", Scenes.state(x).equals(state), true);
        due("refusals", x.status(3), refused.length);
        due("one night", x.nights(1), 1);
        due("60 nights", x.nights(60), 60);
        due("COUNT", x.person(0, 2), 61);
        TuneDoor empty = Check.told(Scenes.GRAY + "door d strict;");
        due("without PERSONS", empty.nights(1), NONE);
        due("refusals", empty.status(3), 1);
        due("without a HOUSE", new TuneDoor().nights(1), NONE);
        TuneDoor shut = Scenes.gray("strict", 1, 0);
        due("nobody was let in", shut.nights(60), 0);
        due("which is no refusal", shut.status(3), 0);
        // What is refused makes no DRAWS, either.
        TuneDoor y = Check.told(three(50, 50));
        TuneDoor z = Check.told(three(50, 50));
        y.nights(0);
        y.nights(61);
        y.nights(20);
        z.nights(20);
        due("no DRAWS were made", Scenes.state(y).equals(Scenes.state(z)), true);
    }

    /** Three tunes that stay, at a strict door: of two notes, two long, each but 11 is heard and told by which one OPENED. */
    private static String three(int loses, int errs) {
        return "notes 2 long 2; tune a 0 0 keep 0; tune b 1 0 keep 0; tune c 0 1 keep 0; " + Scenes.STILL + "door d strict;"
            + String.format("person p door d tune a" + PERSON + "person q door d tune b" + PERSON + "person r door d tune c" + PERSON,
                loses, errs, loses, errs, loses, errs);
    }

    /** A night at three(), as the document tells it: the tune that is heard, by its number; NONE if nobody comes. */
    private static int night(Scenes.Draws draws, int[] counts, int loses, int errs) {
        int[] tunes = {0, 2, 1};
        int who = draws.of(3);
        if (draws.of(100) < loses) {
            counts[who] = Math.min(1000, counts[who] + 1);
        }
        int heard = tunes[who];
        if (draws.of(100) < errs) {
            int place = draws.of(2);
            int more = draws.of(1) + 1;
            heard ^= more << (1 - place);
        }
        if (counts[who] > 999) {
            return NONE;
        }
        counts[who]++;
        return heard;
    }

    private static void drawnNights() {
        CHECK.sentence("A NIGHT: a DRAW of the PERSONS; a DRAW of 100: below loses, it WASTES one; a DRAW of 100: below errs, "
            + "a DRAW of LENGTH and one of NOTES less 1: the note there is so many and 1 more, modulo NOTES; it COMES.");
        int[] opener = {0, 2, 1, NONE};
        for (int[] of : new int[][] {{0, 0}, {50, 50}, {1, 99}, {99, 1}, {100, 100}, {33, 67}}) {
            TuneDoor x = Check.told(three(of[0], of[1]));
            Scenes.Draws draws = new Scenes.Draws(12345);
            x.seed(12345);
            int[] counts = new int[3];
            int latest = NONE;
            for (int i = 0; i < 60; i++) {
                int by = opener[night(draws, counts, of[0], of[1])];
                latest = by == NONE ? latest : by;
                due("night " + i, x.nights(1), by == NONE ? 0 : 1);
                due("the TUNE that OPENED, night " + i, x.opened(0, 0), latest);
                due("COUNTS, night " + i, x.person(i % 3, 2), counts[i % 3]);
            }
        }
    }

    /** Which of b and c stands for WHISTLE 0 of a with its first note one and two more. */
    private static void wrongNotes() {
        CHECK.sentence("the note there is so many and 1 more, modulo NOTES");
        String text = "notes 3 long 2; tune a 2 1 keep 0; tune b 0 1 keep 0; tune c 1 1 keep 0; " + Scenes.STILL + "door d strict;"
            + "person p door d tune a loses 0 errs 100; person q door d tune b loses 0 errs 0; person r door d tune c loses 0 errs 0;";
        TuneDoor x = Check.told(text);
        Scenes.Draws draws = new Scenes.Draws(1);
        int[] seen = new int[3];
        for (int i = 0; i < 120; i++) {
            int who = draws.of(3);
            draws.of(100);
            boolean wrong = draws.of(100) < (who == 0 ? 100 : 0);
            int place = wrong ? draws.of(2) : 0;
            int more = wrong ? draws.of(2) + 1 : 0;
            int by = place == 1 ? NONE : who == 0 ? more : who;
            due("night " + i, x.nights(1), by == NONE ? 0 : 1);
            if (by != NONE) {
                due("by whom, night " + i, x.opened(0, 0), by);
            }
            seen[place == 1 ? 0 : more] += who == 0 ? 1 : 0;
        }
        due("each kind of wrong note was heard", seen[0] > 0 && seen[1] > 0 && seen[2] > 0, true);
        // The greatest DRAW of NOTES less 1 leads to one less, never to the right note.
        TuneDoor six = Check.told("notes 6 long 5; tune a 5 0 5 0 5 keep 0; " + Scenes.STILL + "door d strict; person p door d tune a loses 0 errs 100;");
        due("never the right one", six.nights(60) + six.nights(60) + six.nights(60), 0);
    }

    private static void losesAndErrs() {
        CHECK.sentence("a DRAW of 100: below loses, it WASTES one; a DRAW of 100: below errs");
        for (int seed = 1; seed <= 40; seed++) {
            Scenes.Draws draws = new Scenes.Draws(seed);
            draws.of(1);
            int lost = draws.of(100);
            int erred = draws.of(100);
            // At the DRAW itself it is not below, at one more it is.
            for (int more = 0; more < 2; more++) {
                TuneDoor x = Check.told("notes 2 long 2; tune a 0 0 keep 0; " + Scenes.STILL + "door d strict; person p door d tune a"
                    + String.format(PERSON, lost + more, erred + more));
                x.seed(seed);
                due("let in, seed " + seed, x.nights(1), 1 - more);
                due("COUNT, seed " + seed, x.person(0, 2), 1 + more);
            }
        }
    }

    private static void nightsAtTheEnd() {
        CHECK.sentence("(Who has COUNT 1000 WASTES nothing, and can't COME: the DRAWS are made, too.)");
        int[] opener = {0, 2, 1, NONE};
        for (int first = 996; first <= 1000; first++) {
            TuneDoor x = Check.told(three(50, 50));
            int[] counts = {first, 999, 10};
            int[] bytes = Scenes.zerosBut(21, 0, counts[0] >> 8, 1, counts[0] & 255, 2, counts[1] >> 8, 3, counts[1] & 255, 5, counts[2]);
            due("the image", Scenes.on(x, bytes), true);
            Scenes.Draws draws = new Scenes.Draws(1);
            int in = 0;
            int heardInAll = 0;
            for (int i = 0; i < 60; i++) {
                int heard = night(draws, counts, 50, 50);
                heardInAll += heard == NONE ? 0 : 1;
                int by = heard == NONE ? NONE : opener[heard];
                in += by == NONE ? 0 : 1;
                due("night " + i + " from " + first + " on", x.nights(1), by == NONE ? 0 : 1);
            }
            for (int person = 0; person < 3; person++) {
                due("COUNT " + person, x.person(person, 2), counts[person]);
            }
            due("opened", x.opened(0, 1), in);
            due("shut", x.opened(0, 2), heardInAll - in);
            due("no refusals", x.status(2) + x.status(3), 0);
        }
    }

    // ---- promise 35

    private static void seedAtFirst() {
        CHECK.sentence("THE SEED is 1 at first");
        TuneDoor x = Check.told(three(50, 50));
        TuneDoor y = Check.told(three(50, 50));
        TuneDoor z = Check.told(three(50, 50));
        due("seed(1)", y.seed(1), true);
        due("seed(2)", z.seed(2), true);
        x.nights(60);
        y.nights(60);
        z.nights(60);
        due("as with 1", Scenes.state(x).equals(Scenes.state(y)), true);
        due("not as with 2", Scenes.state(x).equals(Scenes.state(z)), false);
    }

    private static void seedsAsked() {
        CHECK.sentence("THE SEED is this, 0 .. 2 to the 31 less 1: true; false if it can't be.");
        int[] opener = {0, 2, 1, NONE};
        for (int seed : new int[] {0, 1, 2, Integer.MAX_VALUE - 1, Integer.MAX_VALUE}) {
            TuneDoor x = Check.told(three(50, 50));
            due("seed " + seed, x.seed(seed), true);
            due("a seed that can't be", x.seed(-1), false);
            due("a seed that can't be", x.seed(Integer.MIN_VALUE), false);
            due("refusals", x.status(4), 2);
            Scenes.Draws draws = new Scenes.Draws(seed);
            int[] counts = new int[3];
            for (int i = 0; i < 20; i++) {
                due("night " + i + " by " + seed, x.nights(1), opener[night(draws, counts, 50, 50)] == NONE ? 0 : 1);
            }
            due("COUNT", x.person(0, 2), counts[0]);
            due("COUNT", x.person(1, 2), counts[1]);
            due("COUNT", x.person(2, 2), counts[2]);
        }
        due("without a HOUSE, too", new TuneDoor().seed(5), true);
    }

    // ---- promises 36 and 37

    private static final String FULL = "notes 6 long 3; tune a 0 0 0 keep 0; tune b 1 1 1 keep 0; tune c 2 2 2 keep 0; door d pair 9; door e pair 9;"
        + "door f strict; door g lip 1 1; person p door d tune a loses 0 errs 0; person q door d tune b loses 0 errs 0;"
        + "person r door e tune c loses 0 errs 0; person s door g tune c loses 0 errs 0;";

    private static void imageSizes() {
        CHECK.sentence("AN IMAGE is written: how many bytes.");
        due("without a HOUSE", new TuneDoor().image(), 1);
        due("of NOTES alone", Check.told("notes 2 long 2;").image(), 1);
        due("of TUNES alone", Check.told("notes 2 long 2; tune a 0 0 keep 0; tune b 0 0 keep 0;").image(), 1);
        due("of DOORS alone", Check.told("notes 2 long 2; door d strict; door e strict;").image(), 1);
        due("of a DOOR and a TUNE", Check.told("notes 2 long 2; tune a 0 0 keep 0; door d strict;").image(), 6);
        due("of one of each", Scenes.gray("strict").image(), 8);
        due("of all that there may be", Check.told(FULL).image(), 69);
    }

    private static void imageBytes() {
        CHECK.sentence("for each PERSON its COUNT (two bytes, the higher first); for each DOOR and TUNE, an EAR or not, its COUNT (two bytes), "
            + "HALF heard and 1 (two bytes; 0 without), TRIES (one byte); last a byte: all ahead from 33 on, c = (7 c + it) mod 241.");
        TuneDoor x = Check.told(FULL);
        // EARS: d and a at 8, d and b at 13, e and c at 33, g and c at 63; no others.
        int[] bytes = Scenes.zerosBut(68, 0, 3, 1, 232, 2, 1, 3, 0, 4, 0, 5, 255, 6, 2, 7, 1,
            8, 3, 9, 232, 10, 3, 11, 232, 12, 255, 13, 0, 14, 255, 15, 0, 16, 1, 17, 1, 33, 1, 34, 2, 35, 1, 36, 0, 37, 9, 63, 3, 64, 1, 67, 128);
        due("is one", Scenes.on(x, bytes), true);
        int[] persons = {1000, 256, 255, 513};
        for (int person = 0; person < 4; person++) {
            due("COUNT of " + person, x.person(person, 2), persons[person]);
        }
        int[][] ears = {{0, 0, 1000, 999, 255}, {0, 1, 255, 0, 1}, {1, 2, 258, 255, 9}, {3, 2, 769, NONE, 128}};
        for (int[] ear : ears) {
            for (int what = 0; what < 3; what++) {
                due("EAR " + ear[0] + " " + ear[1] + " " + what, x.ear(ear[0], ear[1], what), ear[2 + what]);
            }
        }
        due("written", x.image(), 69);
        int check = 33;
        for (int k = 0; k < 68; k++) {
            due("octet " + k, x.octet(k), bytes[k]);
            check = (7 * check + bytes[k]) % 241;
        }
        due("the last one", x.octet(68), check);
    }

    private static void octetsAsked() {
        CHECK.sentence("Byte k of the latest image(); NONE if there is none such.");
        TuneDoor x = Check.told(FULL);
        due("ahead of any", x.octet(0), NONE);
        due("size", x.image(), 69);
        due("the first", x.octet(0), 0);
        due("the last", x.octet(68) >= 0, true);
        for (int k : new int[] {69, -1, Integer.MIN_VALUE, Integer.MAX_VALUE}) {
            due("octet " + k, x.octet(k), NONE);
        }
        x.come(0);
        due("the latest stays", x.octet(1), 0);
        x.image();
        due("the next one", x.octet(1), 1);
        due("a smaller HOUSE", Check.house(x, "notes 2 long 2;"), 1);
        due("the latest stays", x.octet(1), 1);
        due("its size", x.image(), 1);
        due("one byte", x.octet(0), 33);
        due("no more", x.octet(1), NONE);
        TuneDoor none = new TuneDoor();
        none.image();
        due("without a HOUSE", none.octet(0), 33);
    }

    // ---- promise 38

    private static final String PAIR_AND_STRICT = "notes 3 long 2; tune a 0 0 keep 0; tune b 0 1 keep 0; door d pair 5; door e strict;"
        + "person p door d tune b loses 0 errs 0; person q door e tune a loses 0 errs 0;";

    private static void imageTold() {
        CHECK.sentence("The tape (it goes) is AN IMAGE: true, COUNTS and EARS are as it tells (how often one was let in, what opened() tells stay)");
        TuneDoor x = Check.told(PAIR_AND_STRICT);
        x.come(0);
        x.slip(1, 0, 1);
        x.seed(7);
        due("all 0", Scenes.on(x, new int[24]), true);
        due("it goes", x.end(1), false);
        due("COUNT", x.person(0, 2) + x.person(1, 2), 0);
        due("EAR", x.ear(0, 1, 0) + x.ear(1, 0, 0) + x.ear(1, 0, 2), 0);
        due("nothing half heard", x.ear(0, 1, 1), NONE);
        due("let in", x.person(0, 5), 1);
        due("kept out", x.person(1, 6), 1);
        due("opened by", x.opened(0, 0), 1);
        due("opened", x.opened(0, 1), 1);
        due("shut", x.opened(1, 2), 1);
        due("by none", x.opened(1, 0), NONE);
        due("no refusals", x.status(5), 0);
        // One's own image, as it was written, is one.
        TuneDoor y = Check.told(PAIR_AND_STRICT);
        y.waste(0, 2);
        y.come(0);
        int[] own = new int[y.image()];
        for (int k = 0; k < own.length; k++) {
            own[k] = y.octet(k);
        }
        String state = Scenes.state(y);
        y.nights(9);
        Check.tape(y, own);
        due("one's own", y.on(), true);
        due("COUNTS and EARS", y.person(0, 2) * 100 + y.ear(0, 1, 1), 302);
        TuneDoor z = Check.told(PAIR_AND_STRICT);
        z.waste(0, 2);
        z.come(0);
        Check.tape(z, own);
        due("told to itself", z.on(), true);
        due("nothing is otherwise", Scenes.state(z).equals(state), true);
    }

    private static void imageStays() {
        CHECK.sentence("Byte k of the latest image()");
        TuneDoor x = Check.told(PAIR_AND_STRICT);
        x.image();
        due("on", Scenes.on(x, Scenes.zerosBut(24, 1, 9)), true);
        due("what was written stays", x.octet(1), 0);
        due("COUNT", x.person(0, 2), 9);
    }

    private static void imageRefused() {
        CHECK.sentence("false if it is none (COUNTS 1000 at most, HALF heard 999 at most, all 0 of what is no EAR, HALF heard of pair alone; "
            + "false also without NOTES; all stays)");
        // COUNTS at 0 and 2; EARS: d and a, none, at 4; d and b at 9; e and a at 14; e and b, none, at 19.
        int[][] good = {{0, 3, 1, 232}, {2, 3, 3, 232}, {9, 3, 10, 232}, {11, 3, 12, 232}, {12, 1}, {13, 255}, {14, 3, 15, 232}, {18, 255}};
        int[][] none = {{0, 3, 1, 233}, {0, 4}, {0, 255, 1, 255}, {2, 3, 3, 233}, {2, 4}, {9, 3, 10, 233}, {9, 255}, {11, 3, 12, 233}, {11, 4}, {11, 255, 12, 255},
            {14, 3, 15, 233}, {14, 4}, {16, 1}, {17, 1}, {16, 255, 17, 255}, {4, 1}, {5, 1}, {6, 1}, {7, 1}, {8, 1}, {8, 255}, {19, 1}, {20, 1}, {21, 1}, {22, 1}, {23, 1}};
        for (int[] bytes : good) {
            TuneDoor x = Check.told(PAIR_AND_STRICT);
            due("with " + java.util.Arrays.toString(bytes), Scenes.on(x, Scenes.zerosBut(24, bytes)), true);
            due("no refusals", x.status(5), 0);
        }
        for (int[] bytes : none) {
            TuneDoor x = Check.told(PAIR_AND_STRICT);
            x.waste(0, 2);
            x.come(0);
            x.come(1);
            String state = Scenes.state(x);
            due("with " + java.util.Arrays.toString(bytes), Scenes.on(x, Scenes.zerosBut(24, bytes)), false);
            due("all stays", Scenes.state(x).equals(state), true);
            due("it goes", x.end(1), false);
            due("refusals", x.status(5), 1);
        }
        imageOfOtherSize();
        imageOfOtherKinds();
    }

    private static void imageOfOtherSize() {
        TuneDoor x = Check.told(PAIR_AND_STRICT);
        x.come(0);
        String state = Scenes.state(x);
        for (int size : new int[] {0, 1, 22, 23, 25, 26, 68, 1599}) {
            due(size + " bytes and one", Scenes.on(x, new int[size]), false);
        }
        due("no byte at all", x.on(), false);
        due("all stays", Scenes.state(x).equals(state), true);
        int check = 33;
        for (int i = 0; i < 24; i++) {
            check = 7 * check % 241;
        }
        for (int last = 0; last < 256; last++) {
            TuneDoor y = Check.told(PAIR_AND_STRICT);
            Check.tape(y, Scenes.zerosBut(25, 24, last));
            due("the last byte " + last, y.on(), last == check);
        }
    }

    private static void imageOfOtherKinds() {
        for (String kind : new String[] {"strict", "window 9 9", "lip 9 1", "reset 9 9"}) {
            TuneDoor x = Scenes.gray(kind);
            due("COUNT and TRIES of " + kind, Scenes.on(x, 3, 232, 3, 232, 0, 0, 255), true);
            due("HALF heard of " + kind, Scenes.on(x, 0, 0, 0, 0, 0, 1, 0), false);
            due("HALF heard of " + kind, Scenes.on(x, 0, 0, 0, 0, 1, 0, 0), false);
            due("COUNT stays", x.person(0, 2) + x.ear(0, 0, 0) + x.ear(0, 0, 2), 2255);
        }
        TuneDoor pair = Scenes.gray("pair 1");
        due("HALF heard, far from COUNT", Scenes.on(pair, 0, 0, 0, 0, 3, 232, 0), true);
        due("HALF heard", pair.ear(0, 0, 1), 999);
        due("HALF heard of 1000", Scenes.on(pair, 0, 0, 0, 0, 3, 233, 0), false);
    }

    private static void imageWithoutNotes() {
        CHECK.sentence("false also without NOTES");
        TuneDoor x = new TuneDoor();
        due("one byte", Scenes.on(x), false);
        due("no byte", x.on(), false);
        due("refusals", x.status(5), 2);
        due("one byte with NOTES", Scenes.on(Check.told("notes 2 long 2;")), true);
    }

    // ---- promise 39

    private static void refusals() {
        CHECK.sentence("REFUSALS so far: 0 of feed() and end(), 1 of house(), 2 of come(), slip(), waste() and listen(), 3 of nights(), 4 of seed(), "
            + "5 of on(). NONE for others.");
        TuneDoor x = Scenes.gray("strict", 1, 0);
        for (int what = 0; what < 6; what++) {
            due("none so far " + what, x.status(what), 0);
        }
        counted(x, 0, 1, () -> x.end(1));
        counted(x, 0, 2, () -> x.end(-1));
        counted(x, 1, 1, x::house);
        counted(x, 2, 1, () -> x.come(1));
        counted(x, 2, 2, () -> x.slip(0, 0, 0));
        counted(x, 2, 3, () -> x.waste(0, 0));
        counted(x, 2, 4, () -> x.listen(0));
        counted(x, 3, 1, () -> x.nights(0));
        counted(x, 4, 1, () -> x.seed(-1));
        counted(x, 5, 1, x::on);
        for (int what : new int[] {-1, 6, Integer.MIN_VALUE, Integer.MAX_VALUE}) {
            due("status " + what, x.status(what), NONE);
        }
        CHECK.sentence("NONE if it is kept out");
        // Nothing of this is refused: one is kept out, nobody is let in, or it is only asked.
        int[] before = statuses(x);
        x.come(0);
        x.slip(0, 0, 5);
        x.nights(1);
        Check.tape(x, 5, 5, 5);
        x.listen(0);
        x.mend(9);
        x.would(9);
        x.bears(9);
        x.likely(9, 9);
        x.lost(9, 9);
        x.stranger(9, 9);
        x.near(9);
        x.cost(9, 9, 9, 9);
        x.knows(9, 9, 9);
        x.sure(9, 9);
        x.right(9, 9, 9);
        x.same(9, 9, 9);
        x.tells(9, 9, 9);
        x.bird(9, 9, 9, 9);
        x.octet(99);
        x.fault(9);
        x.has(99);
        x.status(9);
        x.find(9, 9, 9);
        x.ear(9, 9, 9);
        int[] behind = statuses(x);
        for (int what = 0; what < 6; what++) {
            due("no more of " + what, behind[what], before[what]);
        }
        TuneDoor full = new TuneDoor();
        Check.tape(full, " ".repeat(1600));
        due("a full tape", full.status(0), 0);
        counted(full, 0, 1, () -> full.feed(0, 0, 0, 0, 0));
        counted(full, 0, 2, () -> full.feed(0, 0, 0, 0, 0));
    }

    private static void manyCalls() {
        CHECK.sentence("An object is used for at most 512 calls after it has been made");
        TuneDoor x = new TuneDoor();
        for (int i = 1; i <= 511; i++) {
            due("call " + i, x.seed(-i), false);
        }
        due("the 512th", x.status(4), 511);
        TuneDoor y = Scenes.gray("strict");
        for (int i = 0; i < 500; i++) {
            due("come " + i, y.come(0), 0);
        }
        due("let in", y.person(0, 5), 500);
    }

    /** This call makes the REFUSALS of one kind so many, and no others. */
    private static void counted(TuneDoor x, int kind, int many, Runnable call) {
        int[] before = statuses(x);
        call.run();
        int[] behind = statuses(x);
        for (int what = 0; what < 6; what++) {
            due("refusals of " + what, behind[what], what == kind ? many : before[what]);
        }
    }

    private static int[] statuses(TuneDoor x) {
        int[] all = new int[6];
        for (int what = 0; what < 6; what++) {
            all[what] = x.status(what);
        }
        return all;
    }
}
