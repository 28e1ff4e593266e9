/** Boundary cases, sentence by sentence: WHISTLES, EARS and those who come (promises 8 to 21, Terms II). */
public final class DoorEdgesTest {
    private static final int NONE = TuneDoor.NONE;
    private static final Check CHECK = new Check();
    /** Its tune goes 00 10 20 00 10 .. . */
    private static final String SMALL = "notes 3 long 2; tune a 0 0 keep 5; ";
    /** Two tunes of GRAY's round: b is 100 WHISTLES ahead of a. */
    private static final String TWO = Scenes.GRAY + "tune b 2 2 0 keep 0; ";

    public static void main(String[] args) {
        scene();
        doorsAsked();
        personsAsked();
        notesAsked();
        whistleZero();
        placeModuloLength();
        noteModuloNotes();
        keptModuloHundred();
        byWhatWasAhead();
        numbers();
        rounds();
        finding();
        tunesThatWere();
        earsAsked();
        earsThere();
        othersStay();
        triesInVain();
        halfHeard();
        strictDoors();
        windowDoors();
        windowsAtZero();
        pairDoors();
        lipDoors();
        resetDoors();
        beyondTheLast();
        coming();
        slipping();
        wasting();
        listening();
        openedAsked();
        apart();
        mending();
        wouldBe();
        CHECK.close();
    }

    private static void due(String call, long got, long want) {
        CHECK.due(call, got, want);
    }

    private static void due(String call, boolean got, boolean want) {
        CHECK.due(call, got, want);
    }

    private static void ear(String when, TuneDoor x, int tune, int count, int half, int tries) {
        due("COUNT " + when, x.ear(0, tune, 0), count);
        due("HALF heard " + when, x.ear(0, tune, 1), half);
        due("TRIES " + when, x.ear(0, tune, 2), tries);
    }

    private static void scene() {
        CHECK.sentence("There are WHISTLES 0 .. 999.");
        TuneDoor x = Check.told(TWO);
        for (int n = 0; n < 230; n++) {
            due("whistle " + n, x.note(0, n, NONE), Scenes.grayNumber(n));
        }
        due("the last one", x.note(0, 999, NONE), Scenes.grayNumber(999));
        due("none behind it", x.note(0, 1000, NONE), NONE);
        due("the other tune", x.note(1, 0, NONE), Scenes.grayNumber(100));
        due("the other tune", x.note(1, 999, NONE), Scenes.grayNumber(1099));
    }

    // ---- promises 8 and 9

    private static void doorsAsked() {
        CHECK.sentence("1 its first N, 2 its second one (0 without), 3 its TUNES (bits). NONE if there is none such, or for others.");
        TuneDoor x = Check.told(SMALL + "tune b 0 1 keep 0; tune c 0 2 keep 0; door d strict; door e pair 40; door f reset 40 9; door g window 0 0;"
            + "person p door g tune c loses 0 errs 0; person q door g tune a loses 0 errs 0; person r door g tune b loses 0 errs 0;");
        int[][] want = {{0, 0, 0, 0}, {2, 40, 0, 0}, {4, 40, 9, 0}, {1, 0, 0, 7}};
        for (int door = 0; door < 4; door++) {
            for (int what = 0; what < 4; what++) {
                due("door " + door + " " + what, x.door(door, what), want[door][what]);
            }
            due("door " + door + " -1", x.door(door, -1), NONE);
            due("door " + door + " 4", x.door(door, 4), NONE);
        }
        due("no door 4", x.door(4, 0), NONE);
        due("no door -1", x.door(-1, 0), NONE);
        due("no second door", Check.told(SMALL + "door d strict;").door(1, 0), NONE);
    }

    private static void personsAsked() {
        CHECK.sentence("5 how often it was let in, 6 kept out. NONE if there is none such, or for others.");
        TuneDoor x = Check.told(SMALL + "door d strict; door e lip 40 4; person p door e tune a loses 100 errs 99; person q door e tune a loses 0 errs 100;");
        int[] want = {1, 0, 0, 100, 99, 0, 0};
        for (int what = 0; what < 7; what++) {
            due("person 0 " + what, x.person(0, what), want[what]);
        }
        due("what 7", x.person(0, 7), NONE);
        due("what -1", x.person(0, -1), NONE);
        due("person 2", x.person(2, 0), NONE);
        due("person -1", x.person(-1, 0), NONE);
        due("four persons", Check.told(SMALL + "door d strict; person p door d tune a loses 0 errs 0; person q door d tune a loses 0 errs 0;"
            + "person r door d tune a loses 0 errs 0; person s door d tune a loses 7 errs 0;").person(3, 3), 7);
    }

    // ---- promise 10

    private static void notesAsked() {
        CHECK.sentence("(place NONE) its number, (place -2) what is KEPT then; NONE if there is none such");
        for (int length = 2; length <= 5; length++) {
            TuneDoor x = Check.told("notes 2 long " + length + "; tune a" + " 1".repeat(length) + " keep 9;" + Scenes.STILL);
            for (int n : new int[] {0, 1, 998, 999}) {
                due("the first note", x.note(0, n, 0), 1);
                due("the last note", x.note(0, n, length - 1), 1);
                due("none behind it", x.note(0, n, length), NONE);
                due("the number", x.note(0, n, NONE), (1 << length) - 1);
                due("what is KEPT", x.note(0, n, -2), 9);
                due("place -3", x.note(0, n, -3), NONE);
            }
            for (int n : new int[] {-1, 1000, Integer.MIN_VALUE, Integer.MAX_VALUE}) {
                for (int place = -2; place < 1; place++) {
                    due("place " + place + " of " + n, x.note(0, n, place), NONE);
                }
            }
            due("tune 1", x.note(1, 0, 0), NONE);
            due("tune -1", x.note(-1, 0, 0), NONE);
            due("place MAX", x.note(0, 0, Integer.MAX_VALUE), NONE);
            due("place MIN", x.note(0, 0, Integer.MIN_VALUE), NONE);
        }
    }

    private static void whistleZero() {
        CHECK.sentence("WHISTLE 0 of a TUNE is as told, with what is KEPT then (keep).");
        TuneDoor x = Check.told("notes 6 long 5; tune a 0 1 2 3 4 keep 0; tune b 5 5 5 5 5 keep 99; note 1 when all; kept 50 when all;");
        for (int place = 0; place < 5; place++) {
            due("note " + place, x.note(0, 0, place), place);
            due("note " + place, x.note(1, 0, place), 5);
        }
        due("KEPT", x.note(0, 0, -2), 0);
        due("KEPT", x.note(1, 0, -2), 99);
        due("KEPT next", x.note(1, 1, -2), 50);
    }

    /** A number as a SUM. */
    private static String sum(int value) {
        return value < 0 ? "0-" + -value : "" + value;
    }

    private static void placeModuloLength() {
        CHECK.sentence("modulo LENGTH (never below 0; PLACE 0 without)");
        for (int length = 2; length <= 5; length++) {
            String start = "notes 6 long " + length + "; tune a" + " 0".repeat(length) + " keep 0; ";
            for (int value : new int[] {0, 1, length - 1, length, length + 1, 9999, -1, -length, -length - 1, -9999}) {
                TuneDoor x = Check.told(start + "place " + sum(value) + " when all;");
                for (int place = 0; place < length; place++) {
                    due("place " + value + " of " + length, x.note(0, 1, place), place == Math.floorMod(value, length) ? 1 : 0);
                }
            }
            due("without any", Check.told(start).note(0, 1, 0), 1);
            due("without one that holds", Check.told(start + "place 1 when not all;").note(0, 1, 0), 1);
        }
    }

    private static void noteModuloNotes() {
        CHECK.sentence("modulo NOTES (old and 1, modulo NOTES, without)");
        for (int notes = 2; notes <= 6; notes++) {
            String start = "notes " + notes + " long 2; tune a " + (notes - 1) + " 0 keep 0; tune b 0 0 keep 0; ";
            for (int value : new int[] {0, notes - 1, notes, notes + 1, 9999, -1, -notes, -notes - 1, -9999}) {
                due("note " + value + " of " + notes, Check.told(start + "note " + sum(value) + " when all;").note(0, 1, 0), Math.floorMod(value, notes));
            }
            TuneDoor x = Check.told(start + "note 1 when not all;");
            due("the greatest goes round to 0", x.note(0, 1, 0), 0);
            due("0 goes to 1", x.note(1, 1, 0), 1);
            due("without any", Check.told(start).note(0, 1, 0), 0);
        }
    }

    private static void keptModuloHundred() {
        CHECK.sentence("modulo 100 (it stays without)");
        for (int value : new int[] {0, 99, 100, 101, 9999, -1, -99, -100, -101, -9999}) {
            due("kept " + value, Check.told(SMALL + "kept " + sum(value) + " when all;").note(0, 1, -2), Math.floorMod(value, 100));
        }
        TuneDoor x = Check.told("notes 2 long 2; tune a 0 0 keep 99; kept kept+1 when all;");
        due("99", x.note(0, 0, -2), 99);
        due("goes round to 0", x.note(0, 1, -2), 0);
        due("at last", x.note(0, 999, -2), 98);
        due("it stays without any", Check.told("notes 2 long 2; tune a 0 0 keep 99;").note(0, 999, -2), 99);
        due("without one that holds", Check.told("notes 2 long 2; tune a 0 0 keep 99; kept 3 when not all;").note(0, 999, -2), 99);
    }

    private static void byWhatWasAhead() {
        CHECK.sentence("all by what was ahead");
        TuneDoor x = Check.told("notes 6 long 2; tune a 1 2 keep 3; place 1 when kept=3 and first=1; note kept+first when kept=3 and last=2;"
            + "kept last*10+sum when last=2 and sum=3; kept 0 when all;");
        due("the note", x.note(0, 1, 1), 4);
        due("the other one", x.note(0, 1, 0), 1);
        due("KEPT by the tune ahead", x.note(0, 1, -2), 23);
    }

    private static void numbers() {
        CHECK.sentence("its notes as digits to the base NOTES, the first one the highest");
        for (int notes = 2; notes <= 6; notes++) {
            for (int length = 2; length <= 5; length++) {
                String start = "notes " + notes + " long " + length + "; ";
                TuneDoor x = Check.told(start + "tune a" + (" " + (notes - 1)).repeat(length) + " keep 0; tune b 1" + " 0".repeat(length - 1)
                    + " keep 0; tune c" + " 0".repeat(length - 1) + " 1 keep 0;");
                int all = (int) Math.round(Math.pow(notes, length));
                due("the greatest", x.note(0, 0, NONE), all - 1);
                due("the first alone", x.note(1, 0, NONE), all / notes);
                due("the last alone", x.note(2, 0, NONE), 1);
            }
        }
    }

    // ---- promises 11 to 13

    /** A tune of two notes that goes on for 100 WHISTLES a note, and stays from the one where last is 4 and KEPT is so many. */
    private static TuneDoor stopping(int kept) {
        String stop = "last=4 and kept=" + kept;
        return Check.told("notes 6 long 2; tune a 0 0 keep 0; place 1 when first=5; note old when " + stop + "; note old when kept<99;"
            + "kept kept when " + stop + "; kept kept+1 when all;");
    }

    private static void rounds() {
        CHECK.sentence("NONE if there is none within WHISTLES 0 .. 999, no such TUNE, or for others");
        TuneDoor x = stopping(98);
        due("998 comes again as 999", x.round(0, 0), 998);
        due("behind one", x.round(0, 1), 1);
        TuneDoor y = stopping(99);
        due("999 comes again as 1000", y.round(0, 0), NONE);
        due("which is none", y.round(0, 1), NONE);
        due("what -1", x.round(0, -1), NONE);
        due("what 2", x.round(0, 2), NONE);
        due("tune 1", x.round(1, 0), NONE);
        due("tune -1", x.round(-1, 1), NONE);
        CHECK.sentence("the first WHISTLE of a TUNE that comes again, with what is KEPT, and behind how many");
        TuneDoor still = Check.told("notes 2 long 2; tune a 0 0 keep 0; tune b 1 1 keep 5; note old when all; kept kept+1 when kept<99;");
        due("the tune stays, KEPT goes on", still.round(0, 0), 99);
        due("behind one", still.round(0, 1), 1);
        due("from 5 on", still.round(1, 0), 94);
        TuneDoor gray = Check.told(Scenes.GRAY);
        due("all from the first on", gray.round(0, 0), 0);
        due("behind 216", gray.round(0, 1), 216);
        TuneDoor keeping = Check.told(SMALL + "kept kept+1 when all;");
        due("3 notes and 100 KEPT", keeping.round(0, 1), 300);
        due("from the first on", keeping.round(0, 0), 0);
    }

    private static void finding() {
        CHECK.sentence("The least WHISTLE of a TUNE, from n on, that is such a tune (by number); NONE without, or if something can't be.");
        TuneDoor x = Check.told(Scenes.GRAY);
        due("the first", x.find(0, 0, 0), 0);
        due("not the first", x.find(0, 1, 0), 216);
        due("n itself", x.find(0, 216, 0), 216);
        due("behind n", x.find(0, 217, 0), 432);
        due("the last one", x.find(0, 999, Scenes.grayNumber(999)), 999);
        due("behind the last", x.find(0, 999, Scenes.grayNumber(1000)), NONE);
        due("n 1000", x.find(0, 1000, Scenes.grayNumber(1000)), NONE);
        due("n -1", x.find(0, -1, 0), NONE);
        due("n MAX", x.find(0, Integer.MAX_VALUE, 0), NONE);
        due("number 215", x.find(0, 0, 215) > 0, true);
        due("number 216", x.find(0, 0, 216), NONE);
        due("number -1", x.find(0, 0, -1), NONE);
        due("tune 1", x.find(1, 0, 0), NONE);
        due("tune -1", x.find(-1, 0, 0), NONE);
        due("a tune it never is", Check.told(SMALL).find(0, 0, 1), NONE);
    }

    private static void tunesThatWere() {
        CHECK.sentence("NONE if there is none such.");
        TuneDoor x = Check.told(Scenes.GRAY + "tune b 0 0 1 keep 0; tune c 0 0 2 keep 0; door d strict; person p door d tune c loses 0 errs 0;");
        due("told anew with one tune", Check.house(x, Scenes.GRAY + "door d strict;"), 5);
        for (int tune = 1; tune < 3; tune++) {
            due("note", x.note(tune, 0, NONE), NONE);
            due("round", x.round(tune, 0) + x.round(tune, 1), 2 * NONE);
            due("find", x.find(tune, 0, 1), NONE);
            due("ear", x.ear(0, tune, 0), NONE);
            due("knows", x.knows(tune, 0, 1), NONE);
            due("sure", x.sure(tune, 0), NONE);
            due("right", x.right(tune, 0, 1), NONE);
            due("same", x.same(0, tune, 0), NONE);
            due("same", x.same(tune, 0, 1), NONE);
            due("tells", x.tells(0, tune, 0), NONE);
            due("tells", x.tells(tune, 0, 0), NONE);
            due("bird", x.bird(0, tune, 0, 1), NONE);
        }
        due("person", x.person(0, 0), NONE);
    }

    private static void earsAsked() {
        CHECK.sentence("An EAR: its COUNT (what 0), HALF heard (1; NONE without), TRIES (2). NONE if there is none such, or for others.");
        TuneDoor x = Scenes.gray("pair 9", 0, 1000, 999, 255);
        ear("at its most", x, 0, 1000, 999, 255);
        TuneDoor y = Scenes.gray("pair 9", 0, 0, 0, 0);
        ear("at its least", y, 0, 0, 0, 0);
        due("what 3", x.ear(0, 0, 3), NONE);
        due("what -1", x.ear(0, 0, -1), NONE);
        due("tune 1", x.ear(0, 1, 0), NONE);
        due("tune -1", x.ear(0, -1, 0), NONE);
        due("tune 32", x.ear(0, 32, 0), NONE);
        due("door 1", x.ear(1, 0, 0), NONE);
        due("door -1", x.ear(-1, 0, 0), NONE);
    }

    // ---- Terms II: EARS

    private static void earsThere() {
        CHECK.sentence("for each TUNE that some PERSON of this DOOR has, an EAR");
        TuneDoor x = Check.told(TWO + "tune c 0 0 1 keep 0; door d strict; door e strict; person p door d tune c loses 0 errs 0;"
            + "person q door d tune a loses 0 errs 0; person r door d tune a loses 0 errs 0; person s door e tune b loses 0 errs 0;");
        CHECK.sentence("(All 0, none at first.)");
        ear("at first", x, 0, 0, NONE, 0);
        ear("of no PERSON here", x, 1, NONE, NONE, NONE);
        ear("of the first PERSON", x, 2, 0, NONE, 0);
        due("the other door's", x.ear(1, 1, 0), 0);
        due("the other door's", x.ear(1, 0, 0), NONE);
        due("two PERSONS share one", x.come(1), 0);
        due("the second is behind then", x.come(2), NONE);
        ear("of both", x, 0, 1, NONE, 1);
    }

    /** TWO at one door, both EARS told. */
    private static TuneDoor two(String kind, int first, int second, int[] earA, int[] earB) {
        TuneDoor x = Check.told(TWO + "door d " + kind + "; person p door d tune a loses 0 errs 0; person q door d tune b loses 0 errs 0;");
        int[] bytes = {first >> 8, first & 255, second >> 8, second & 255, earA[0] >> 8, earA[0] & 255, earA[1] + 1 >> 8, earA[1] + 1 & 255,
            earA[2], earB[0] >> 8, earB[0] & 255, earB[1] + 1 >> 8, earB[1] + 1 & 255, earB[2]};
        due("the image", Scenes.on(x, bytes), true);
        return x;
    }

    private static void othersStay() {
        CHECK.sentence("the first that does changes its EAR (nothing half heard, no TRIES then), the others stay");
        TuneDoor x = two("pair 40", 20, 0, new int[] {5, 9, 3}, new int[] {0, 7, 4});
        due("b opens", x.come(1), 1);
        ear("of b", x, 1, 1, NONE, 0);
        ear("of a stays", x, 0, 5, 9, 3);
        due("none opens", x.come(0), NONE);
        ear("of a", x, 0, 5, 20, 4);
        ear("of b", x, 1, 1, NONE, 1);
        due("a opens by what was half heard", x.come(0), 0);
        ear("of a", x, 0, 22, NONE, 0);
        ear("of b stays", x, 1, 1, NONE, 1);
        CHECK.sentence("its TUNES, by numbers, are asked whether they OPEN");
        // WHISTLE 100 of a and WHISTLE 0 of b are one tune: a's EAR is asked first, whoever whistles.
        TuneDoor both = two("window 0 0", 100, 0, new int[] {100, NONE, 2}, new int[] {0, NONE, 2});
        due("both would", both.come(1), 0);
        ear("of a", both, 0, 101, NONE, 0);
        ear("of b stays", both, 1, 0, NONE, 2);
        due("now b", both.come(0), 1);
        ear("of b", both, 1, 1, NONE, 0);
        ear("of a stays", both, 0, 101, NONE, 0);
    }

    private static void triesInVain() {
        CHECK.sentence("TRIES of each are one more (255 at most)");
        String[] kinds = {"strict", "window 1 1", "pair 1", "lip 1 0", "reset 1 1"};
        for (String kind : kinds) {
            for (int tries : new int[] {0, 1, 253, 254, 255}) {
                TuneDoor x = two(kind, 500, 500, new int[] {200, NONE, tries}, new int[] {200, NONE, 255 - tries});
                due("in vain", x.come(0), NONE);
                ear("of a " + kind, x, 0, 200, NONE, Math.min(255, tries + 1));
                ear("of b " + kind, x, 1, 200, NONE, Math.min(255, 256 - tries));
            }
        }
        TuneDoor y = two("window 1 1", 199, 0, new int[] {200, NONE, 255}, new int[] {200, NONE, 255});
        due("not in vain, though COUNT stays", y.come(0), 0);
        ear("of a", y, 0, 200, NONE, 0);
        ear("of b", y, 1, 200, NONE, 255);
    }

    private static void halfHeard() {
        CHECK.sentence("HALF heard becomes COUNT and d, for the least d of 1 .. its N with which that WHISTLE is the tune; without, none");
        for (int most : new int[] {1, 2, 6, 40}) {
            for (int d = -3; d <= 43; d++) {
                TuneDoor x = Scenes.gray("pair " + most, 50 + d, 50, 80, 0);
                boolean half = d >= 1 && d <= most;
                due("pair " + most + " and " + d, x.come(0), d == 0 || d == 31 ? 0 : NONE);
                if (d == 0 || d == 31) {
                    ear("opened by " + d, x, 0, 51 + d, NONE, 0);
                } else {
                    ear("pair " + most + " and " + d, x, 0, 50, half ? 50 + d : NONE, 1);
                }
            }
        }
        TuneDoor small = Check.told(SMALL + "door d pair 40; person p door d tune a loses 0 errs 0;");
        small.waste(0, 7);
        due("10, which is WHISTLE 1, 4 and 7", small.come(0), NONE);
        due("the least of them", small.ear(0, 0, 1), 1);
        // Other kinds hear nothing by halves.
        for (String kind : new String[] {"strict", "window 1 1", "lip 1 0", "reset 1 9"}) {
            TuneDoor x = Scenes.gray(kind, 60, 50);
            due(kind, x.come(0), NONE);
            ear(kind, x, 0, 50, NONE, 1);
        }
    }

    // ---- Terms II: the kinds

    /** COUNT behind hearing, at an EAR with COUNT 50 and TRIES 1, WHISTLE 50 and d; 50 and NONE if shut is said by opens. */
    private static void hears(String kind, int d, boolean opens, int count) {
        TuneDoor x = Scenes.gray(kind, 50 + d, 50, NONE, 1);
        due(kind + " hears " + d, x.come(0), opens ? 0 : NONE);
        due(kind + " hears " + d + ": COUNT", x.ear(0, 0, 0), count);
        due(kind + " hears " + d + ": TRIES", x.ear(0, 0, 2), opens ? 0 : 2);
    }

    private static void strictDoors() {
        CHECK.sentence("strict: d is 0, and that is the tune");
        for (int d = -3; d <= 3; d++) {
            hears("strict", d, d == 0, d == 0 ? 51 : 50);
        }
    }

    private static void windowDoors() {
        CHECK.sentence("window A B: the least d of 0 .. A with which that is the tune; else, of c less 1, c less 2, .. c less B, "
            + "the first that is the tune: it OPENS, and COUNT stays");
        int[][] windows = {{0, 0}, {1, 1}, {3, 2}, {40, 9}, {0, 9}, {40, 0}};
        for (int[] ab : windows) {
            for (int d = -11; d <= 43; d++) {
                boolean ahead = d >= 0 && d <= ab[0];
                boolean back = d < 0 && -d <= ab[1];
                hears("window " + ab[0] + " " + ab[1], d, ahead || back, ahead ? 51 + d : 50);
            }
        }
        TuneDoor x = Check.told(SMALL + "door d window 40 9; person p door d tune a loses 0 errs 0;");
        due("the image", Scenes.on(x, 0, 5, 0, 4, 0, 0, 0), true);
        due("WHISTLE 5, which is 2 and 8, too", x.come(0), 0);
        due("the least d ahead, not one behind", x.ear(0, 0, 0), 6);
    }

    private static void windowsAtZero() {
        CHECK.sentence("of c less 1, c less 2, .. c less B, the first that is the tune");
        // WHISTLE 215 stands where -1 would, as the tune goes round by 216: none is below 0.
        due("nothing is behind 0", Scenes.gray("window 0 9", 215, 0).come(0), NONE);
        due("0 is behind 1", Scenes.gray("window 0 9", 0, 1).come(0), 0);
        due("nothing is behind that", Scenes.gray("window 0 9", 215, 1).come(0), NONE);
        due("0 is 9 behind 9", Scenes.gray("window 0 9", 0, 9).come(0), 0);
        due("0 is 10 behind 10", Scenes.gray("window 0 9", 0, 10).come(0), NONE);
    }

    private static void pairDoors() {
        CHECK.sentence("pair: d is 0; else what stands behind HALF heard, if that is the tune");
        int[][] cases = {{50, 0, 51}, {61, 0, 62}, {60, NONE, 50}, {62, NONE, 50}, {51, NONE, 50}, {49, NONE, 50}};
        for (int[] one : cases) {
            TuneDoor x = Scenes.gray("pair 40", one[0], 50, 60, 3);
            due("WHISTLE " + one[0] + " at 50, 60 half heard", x.come(0), one[1]);
            boolean ahead = one[0] > 50;
            ear("behind " + one[0], x, 0, one[2], one[1] == 0 ? NONE : ahead ? one[0] : NONE, one[1] == 0 ? 0 : 4);
        }
        due("nothing half heard", Scenes.gray("pair 40", 0, 50, NONE, 3).come(0), NONE);
        TuneDoor end = Scenes.gray("pair 9", 999, 990, 998, 0);
        due("999 behind 998", end.come(0), 0);
        ear("at the end", end, 0, 1000, NONE, 0);
        TuneDoor behind = Scenes.gray("pair 9", 0, 990, 999, 0);
        Scenes.tapeNumber(behind, Scenes.grayNumber(1000));
        due("nothing stands behind 999", behind.listen(0), NONE);
        ear("at the end", behind, 0, 990, NONE, 1);
        TuneDoor zero = Scenes.gray("pair 9", 1, 5, 0, 0);
        due("1 behind 0", zero.come(0), 0);
        ear("back there", zero, 0, 2, NONE, 0);
        // Both could be: the one at COUNT goes ahead.
        TuneDoor both = Check.told(SMALL + "door d pair 9; person p door d tune a loses 0 errs 0;");
        due("the image", Scenes.on(both, 0, 3, 0, 0, 0, 6, 0), true);
        due("WHISTLE 0, which is 6, too", both.come(0), 0);
        due("COUNT", both.ear(0, 0, 0), 1);
    }

    private static void lipDoors() {
        CHECK.sentence("lip A K: the least d of 0 .. A with which K notes at most are otherwise");
        for (int[] ak : new int[][] {{0, 0}, {0, 1}, {5, 0}, {5, 1}, {40, 0}, {40, 1}, {40, 2}, {0, 3}, {0, 4}}) {
            for (int d = -2; d <= 43; d += d > 10 && d < 38 ? 5 : 1) {
                int by = NONE;
                for (int e = ak[0]; e >= 0; e--) {
                    by = Scenes.unlike(Scenes.grayNumber(50 + e), Scenes.grayNumber(50 + d)) <= ak[1] ? e : by;
                }
                hears("lip " + ak[0] + " " + ak[1], d, by != NONE, 51 + (by == NONE ? -1 : by));
            }
        }
        String still = "notes 2 long 5; tune a 0 0 0 0 0 keep 0; " + Scenes.STILL + "door d lip 40 %d; person p door d tune a loses 0 errs 0;";
        for (int k = 0; k <= 4; k++) {
            for (int otherwise = 0; otherwise <= 5; otherwise++) {
                TuneDoor x = Check.told(String.format(still, k));
                int[] notes = new int[5];
                java.util.Arrays.fill(notes, 0, otherwise, 1);
                Check.tape(x, notes);
                due(otherwise + " otherwise of " + k, x.listen(0), otherwise <= k ? 0 : NONE);
            }
        }
    }

    private static void resetDoors() {
        CHECK.sentence("reset A T: the least d of 0 .. A, if TRIES are fewer than T, else of 0 .. 40");
        for (int[] at : new int[][] {{0, 1}, {3, 2}, {39, 5}, {40, 9}}) {
            for (int tries : new int[] {0, at[1] - 1, at[1], 255}) {
                int reach = tries < at[1] ? at[0] : 40;
                for (int d : new int[] {-1, 0, at[0], at[0] + 1, 39, 40, 41}) {
                    TuneDoor x = Scenes.gray("reset " + at[0] + " " + at[1], 50 + d, 50, NONE, tries);
                    boolean opens = d >= 0 && d <= reach;
                    due("reset " + at[0] + " " + at[1] + ", TRIES " + tries + ", hears " + d, x.come(0), opens ? 0 : NONE);
                    due("COUNT", x.ear(0, 0, 0), opens ? 51 + d : 50);
                    due("TRIES", x.ear(0, 0, 2), opens ? 0 : Math.min(255, tries + 1));
                }
            }
        }
        // Each EAR by its own TRIES.
        TuneDoor x = two("reset 0 2", 40, 40, new int[] {0, NONE, 2}, new int[] {0, NONE, 1});
        due("b has too few", x.come(1), NONE);
        due("a has enough", x.come(0), 0);
    }

    private static void beyondTheLast() {
        CHECK.sentence("COUNT then is one more than that WHISTLE's number. (WHISTLES beyond 999 are none.)");
        for (String kind : new String[] {"window 40 0", "lip 40 0", "reset 40 1"}) {
            TuneDoor x = Scenes.gray(kind, 999, 990);
            due(kind + " hears 999", x.come(0), 0);
            due("COUNT", x.ear(0, 0, 0), 1000);
            for (int n : new int[] {990, 999, 1000, 1001}) {
                TuneDoor y = Scenes.gray(kind, 0, 990);
                Scenes.tapeNumber(y, Scenes.grayNumber(n));
                due(kind + " at 990 hears " + n, y.listen(0), n < 1000 ? 0 : NONE);
                TuneDoor z = Scenes.gray(kind, 0, 1000);
                Scenes.tapeNumber(z, Scenes.grayNumber(n));
                due(kind + " at 1000 hears " + n, z.listen(0), NONE);
            }
        }
        TuneDoor strict = Scenes.gray("strict", 999, 999);
        due("strict at 999", strict.come(0), 0);
        due("COUNT", strict.ear(0, 0, 0), 1000);
        due("strict at 1000", Scenes.gray("strict", 999, 1000).come(0), NONE);
        due("behind 1000 there are some", Scenes.gray("window 0 1", 999, 1000).come(0), 0);
        due("COUNT stays", Scenes.gray("window 0 1", 999, 1000).ear(0, 0, 0), 1000);
        TuneDoor pair = Scenes.gray("pair 40", 999, 990);
        due("half heard", pair.come(0), NONE);
        due("999", pair.ear(0, 0, 1), 999);
        Scenes.tapeNumber(pair, Scenes.grayNumber(1000));
        due("1000 is none", pair.listen(0), NONE);
        due("not even by halves", pair.ear(0, 0, 1), NONE);
    }

    // ---- promises 14 to 18

    private static void coming() {
        CHECK.sentence("with a COUNT above 999 it can't");
        TuneDoor x = Scenes.gray("strict", 999, 999);
        due("at 999", x.come(0), 0);
        due("COUNT", x.person(0, 2), 1000);
        String state = Scenes.state(x);
        due("at 1000", x.come(0), -2);
        due("nothing was done", Scenes.state(x).equals(state), true);
        due("a refusal", x.status(2), 1);
        CHECK.sentence("A PERSON COMES: the TUNE that OPENED; NONE if it is kept out; -2 if it can't.");
        TuneDoor y = Scenes.gray("strict", 1, 0);
        due("kept out", y.come(0), NONE);
        due("COUNT is one more", y.person(0, 2), 2);
        due("kept out once", y.person(0, 6), 1);
        due("which is no refusal", y.status(2), 0);
        state = Scenes.state(y);
        due("person 1", y.come(1), -2);
        due("person -1", y.come(-1), -2);
        due("person MAX", y.come(Integer.MAX_VALUE), -2);
        due("nothing was done", Scenes.state(y).equals(state), true);
        due("refusals", y.status(2), 3);
    }

    private static void slipping() {
        CHECK.sentence("(-2 also if the note is the right one, or something can't be)");
        TuneDoor x = Scenes.gray("lip 0 1", 3, 3);
        // WHISTLE 3 is 0 0 3.
        String state = Scenes.state(x);
        int[][] refused = {{0, 0, 0}, {0, 1, 0}, {0, 2, 3}, {0, 0, 6}, {0, 0, -1}, {0, 3, 1}, {0, -1, 1}, {1, 0, 1}, {-1, 0, 1},
            {0, 0, Integer.MAX_VALUE}, {0, Integer.MAX_VALUE, 1}, {0, Integer.MIN_VALUE, 1}};
        for (int[] one : refused) {
            due("slip " + one[0] + " " + one[1] + " " + one[2], x.slip(one[0], one[1], one[2]), -2);
        }
        due("nothing was done", Scenes.state(x).equals(state), true);
        due("refusals", x.status(2), refused.length);
        due("the least note, in the last place", x.slip(0, 2, 0), 0);
        due("COUNT", x.person(0, 2), 4);
        due("the greatest note, in the first place", x.slip(0, 0, 5), 0);
        due("let in", x.person(0, 5), 2);
        due("no more refusals", x.status(2), refused.length);
        due("kept out with a wrong note", Scenes.gray("strict", 3, 3).slip(0, 0, 1), NONE);
        due("let in by WHISTLE 4 at 4", Scenes.gray("strict", 3, 4).slip(0, 2, 4), 0);
        TuneDoor late = Scenes.gray("lip 0 3", 999, 999);
        due("at 999", late.slip(0, 0, (late.note(0, 999, 0) + 1) % 6), 0);
        due("at 1000", late.slip(0, 0, 1), -2);
        due("at 1000", late.slip(0, 0, 2), -2);
    }

    private static void wasting() {
        CHECK.sentence("It WASTES n WHISTLES (1 .. 99): its COUNT; NONE if it can't be, or that would be above 1000.");
        TuneDoor x = Scenes.gray("strict");
        due("one", x.waste(0, 1), 1);
        due("99", x.waste(0, 99), 100);
        String state = Scenes.state(x);
        int[] refused = {0, 100, -1, Integer.MIN_VALUE, Integer.MAX_VALUE};
        for (int n : refused) {
            due("waste " + n, x.waste(0, n), NONE);
        }
        due("person 1", x.waste(1, 1), NONE);
        due("person -1", x.waste(-1, 1), NONE);
        due("nothing was done", Scenes.state(x).equals(state), true);
        due("refusals", x.status(2), refused.length + 2);
        TuneDoor y = Scenes.gray("strict", 901, 0);
        due("to 1000", y.waste(0, 99), 1000);
        due("no further", y.waste(0, 1), NONE);
        due("COUNT", y.person(0, 2), 1000);
        TuneDoor z = Scenes.gray("strict", 902, 0);
        due("to 1001", z.waste(0, 99), NONE);
        due("COUNT", z.person(0, 2), 902);
        due("to 1000", z.waste(0, 98), 1000);
    }

    private static void listening() {
        CHECK.sentence("as many bytes as LENGTH, notes: the TUNE that OPENED; NONE if none; -2 if it is no such tune, or there is no such DOOR");
        TuneDoor x = Scenes.gray("lip 0 3");
        String state = Scenes.state(x);
        int[][] none = {{}, {0}, {0, 0}, {0, 0, 0, 0}, {6, 0, 0}, {0, 0, 6}, {0, 255, 0}, {48, 48, 48}};
        for (int[] notes : none) {
            Check.tape(x, notes);
            due(notes.length + " bytes", x.listen(0), -2);
            due("they go", x.end(1), false);
        }
        for (int door : new int[] {1, -1, Integer.MAX_VALUE}) {
            Check.tape(x, 0, 0, 0);
            due("door " + door, x.listen(door), -2);
            due("they go", x.end(1), false);
        }
        due("nothing was done", Scenes.state(x).equals(state), true);
        due("refusals", x.status(2), none.length + 3);
        Check.tape(x, 5, 5, 5);
        due("the greatest notes", x.listen(0), 0);
        due("they go", x.end(1), false);
        due("no person came", x.person(0, 2) + x.person(0, 5) + x.person(0, 6), 0);
        Check.tape(x, 5, 5, 5);
        x.waste(0, 9);
        due("the tape waits", x.listen(0), 0);
        TuneDoor strict = Scenes.gray("strict");
        Check.tape(strict, 0, 0, 1);
        due("none opens", strict.listen(0), NONE);
        due("which is no refusal", strict.status(2), 0);
        TuneDoor deaf = Check.told(SMALL + "door d lip 40 4;");
        Check.tape(deaf, 0, 0);
        due("a DOOR without EARS", deaf.listen(0), NONE);
        due("stays shut", deaf.opened(0, 2), 1);
        TuneDoor five = Check.told("notes 2 long 5; tune a 0 0 0 0 0 keep 0; door d lip 0 4; person p door d tune a loses 0 errs 0;");
        Check.tape(five, 1, 1, 1, 1, 0);
        due("five notes", five.listen(0), 0);
        Check.tape(five, 1, 1, 1, 1, 2);
        due("no such note", five.listen(0), -2);
    }

    private static void openedAsked() {
        CHECK.sentence("0 the TUNE that OPENED it latest (NONE ahead of any), 1 how often it was OPENED, 2 how often it stayed shut. "
            + "NONE if there is none such, or for others.");
        TuneDoor x = two("window 0 0", 0, 0, new int[] {0, NONE, 0}, new int[] {0, NONE, 0});
        due("ahead of any", x.opened(0, 0), NONE);
        due("not opened", x.opened(0, 1), 0);
        due("not shut", x.opened(0, 2), 0);
        due("b", x.come(1), 1);
        due("b opened it", x.opened(0, 0), 1);
        due("a", x.come(0), 0);
        due("a opened it", x.opened(0, 0), 0);
        due("none", x.slip(0, 0, 5), NONE);
        due("a opened it latest", x.opened(0, 0), 0);
        Check.tape(x, 5, 5, 5);
        due("none", x.listen(0), NONE);
        Scenes.tapeNumber(x, Scenes.grayNumber(1));
        due("a", x.listen(0), 0);
        due("opened", x.opened(0, 1), 3);
        due("shut", x.opened(0, 2), 2);
        x.come(7);
        x.slip(0, 9, 9);
        x.listen(0);
        x.waste(0, 1);
        due("what can't be counts for nothing", x.opened(0, 1) + x.opened(0, 2), 5);
        x.mend(0);
        x.would(0);
        x.bears(0);
        x.likely(0, 3);
        x.lost(0, 3);
        x.cost(0, 2, 3, 1);
        x.stranger(0, 9);
        x.bird(0, 0, 1, 9);
        due("nor does what is asked", x.opened(0, 1) + x.opened(0, 2), 5);
        due("latest", x.opened(0, 0), 0);
        due("what 3", x.opened(0, 3), NONE);
        due("what -1", x.opened(0, -1), NONE);
        due("door 1", x.opened(1, 1), NONE);
        due("door -1", x.opened(-1, 1), NONE);
        CHECK.sentence("by all that it heard (of PERSONS, also by night, and listen()) since the HOUSE was told");
        x.nights(9);
        due("by night", x.opened(0, 1) + x.opened(0, 2), 14);
        Check.house(x, TWO + "door d strict;");
        due("a new HOUSE", x.opened(0, 1) + x.opened(0, 2), 0);
        due("by none", x.opened(0, 0), NONE);
    }

    // ---- promises 19 to 21

    private static void apart() {
        CHECK.sentence("APART; NOTHING (-10000) if there is no such PERSON.");
        due("ahead", Scenes.gray("strict", 1000, 0).apart(0), 1000);
        due("behind", Scenes.gray("strict", 0, 1000).apart(0), -1000);
        due("not at all", Scenes.gray("strict", 7, 7).apart(0), 0);
        due("by less than none", Scenes.gray("strict", 6, 7).apart(0), -1);
        due("person 1", Scenes.gray("strict").apart(1), -10000);
        due("person -1", Scenes.gray("strict").apart(-1), -10000);
        // By its own TUNE's EAR at its own DOOR.
        TuneDoor x = two("strict", 5, 9, new int[] {1, NONE, 0}, new int[] {2, NONE, 0});
        due("of a", x.apart(0), 4);
        due("of b", x.apart(1), 7);
    }

    private static void mending() {
        CHECK.sentence("MENDED; NONE if not within 50, or there is no such PERSON. (All stays.)");
        due("by the first", Scenes.gray("strict", 7, 7).mend(0), 1);
        due("by the second", Scenes.gray("strict", 6, 7).mend(0), 2);
        TuneDoor x = Scenes.gray("strict", 0, 49);
        String state = Scenes.state(x);
        due("by the fiftieth", x.mend(0), 50);
        due("all stays", Scenes.state(x).equals(state), true);
        TuneDoor y = Scenes.gray("strict", 0, 50);
        state = Scenes.state(y);
        due("by the next", y.mend(0), NONE);
        due("all stays", Scenes.state(y).equals(state), true);
        due("person 1", x.mend(1), NONE);
        due("person -1", x.mend(-1), NONE);
        due("the last WHISTLE", Scenes.gray("strict", 999, 999).mend(0), 1);
        due("up to the last WHISTLE", Scenes.gray("strict", 990, 999).mend(0), 10);
        due("beyond it", Scenes.gray("strict", 990, 1000).mend(0), NONE);
        due("nobody comes", Scenes.gray("window 0 9", 1000, 1000).mend(0), NONE);
        // TRIES and what is HALF heard go on from one COMING to the next.
        due("by TRIES", Scenes.gray("reset 0 9", 60, 50).mend(0), 10);
        due("by TRIES that were there", Scenes.gray("reset 0 9", 60, 50, NONE, 8).mend(0), 2);
        due("by halves", Scenes.gray("pair 10", 60, 50).mend(0), 2);
        due("too far for halves", Scenes.gray("pair 9", 60, 50).mend(0), NONE);
        due("by what was half heard", Scenes.gray("pair 9", 61, 50, 60, 0).mend(0), 1);
        CHECK.sentence("the last of which lets in (by whatever TUNE)");
        TuneDoor both = two("strict", 100, 9, new int[] {0, NONE, 0}, new int[] {0, NONE, 0});
        due("by b's", both.mend(0), 1);
        due("a's is far", both.apart(0), 100);
    }

    private static void wouldBe() {
        CHECK.sentence("each by itself (bits); NONE if there is none such");
        String four = Scenes.GRAY + "door d strict; door e strict; door f strict; person p door d tune a loses 0 errs 0; person q door d tune a loses 0 errs 0;"
            + "person r door e tune a loses 0 errs 0; person s door d tune a loses 0 errs 0;";
        TuneDoor x = Check.told(four);
        String state = Scenes.state(x);
        due("all of it", x.would(0), 11);
        due("the third", x.would(1), 4);
        due("nobody's", x.would(2), 0);
        due("door 3", x.would(3), NONE);
        due("door -1", x.would(-1), NONE);
        due("all stays", Scenes.state(x).equals(state), true);
        x.come(1);
        due("one who is ahead, two who are behind", x.would(0), 2);
        x.waste(3, 1);
        due("one more", x.would(0), 10);
        due("a COUNT of 1000", Scenes.gray("lip 40 4", 1000, 0).would(0), 0);
        due("a COUNT of 999", Scenes.gray("lip 40 4", 999, 0).would(0), 1);
        due("an EAR at 1000", Scenes.gray("lip 40 4", 999, 1000).would(0), 0);
    }
}
