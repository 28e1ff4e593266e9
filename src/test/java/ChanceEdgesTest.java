import java.util.function.IntPredicate;

/** Boundary cases, sentence by sentence: how likely, and who has heard it (promises 22 to 33, Terms III). */
public final class ChanceEdgesTest {
    private static final int NONE = TuneDoor.NONE;
    private static final long WHOLE = 1000000000L;
    private static final Check CHECK = new Check();
    private static final String ONE = "door d strict; person p door d tune a loses 0 errs 0;";

    public static void main(String[] args) {
        likelyAsked();
        weights();
        comingsThatCannotBe();
        lostAsked();
        bearing();
        strangersCounted();
        strangersByLip();
        strangersByTries();
        nearest();
        nearestOfAllEars();
        nearestAtTheEnd();
        costsAsked();
        costsFloored();
        costOfOtherDoors();
        bestWindow();
        formsKnown();
        formsSure();
        formsRight();
        sameTunes();
        telling();
        birds();
        askingChangesNothing();
        CHECK.close();
    }

    private static void due(String call, long got, long want) {
        CHECK.due(call, got, want);
    }

    private static void due(String call, boolean got, boolean want) {
        CHECK.due(call, got, want);
    }

    // ---- promises 22 and 23

    /** The weights of those ways of n COMINGS, a bit each for what is WASTED, together. */
    private static long together(int loses, int n, IntPredicate counts) {
        long sum = 0;
        for (int way = 0; way < 1 << n; way++) {
            long weight = WHOLE;
            for (int i = 0; i < n; i++) {
                weight = weight * ((way >> i & 1) == 1 ? loses : 100 - loses) / 100;
            }
            sum += counts.test(way) ? weight : 0;
        }
        return sum;
    }

    private static void likelyAsked() {
        CHECK.sentence("LIKELY, n 1 .. 8; -1 if it can't be.");
        TuneDoor x = Scenes.gray("strict", 25);
        String state = Scenes.state(x);
        due("n 1", x.likely(0, 1), 750000000);
        due("n 8", x.likely(0, 8), together(25, 8, way -> way == 0));
        for (int n : new int[] {0, 9, -1, Integer.MIN_VALUE, Integer.MAX_VALUE}) {
            due("n " + n, x.likely(0, n), -1);
            due("n " + n, x.lost(0, n), -1);
        }
        for (int person : new int[] {1, -1, Integer.MAX_VALUE}) {
            due("person " + person, x.likely(person, 1), -1);
            due("person " + person, x.lost(person, 1), -1);
        }
        due("all stays", Scenes.state(x).equals(state), true);
    }

    private static void weights() {
        CHECK.sentence("10 to the 9, times (loses, or 100 less loses) / 100 for each, the greatest whole number not above");
        for (int loses : new int[] {0, 1, 8, 33, 50, 67, 99, 100}) {
            TuneDoor strict = Scenes.gray("strict", loses);
            TuneDoor wide = Scenes.gray("window 40 0", loses);
            for (int n = 1; n <= 8; n++) {
                due("all but wasted ones, " + loses + " " + n, strict.likely(0, n), together(loses, n, way -> way == 0));
                due("any wasted, " + loses + " " + n, strict.lost(0, n), together(loses, n, way -> way != 0));
                due("all, " + loses + " " + n, wide.likely(0, n), together(loses, n, way -> true));
                due("none, " + loses + " " + n, wide.lost(0, n), 0);
            }
        }
        due("something is floored away", together(33, 8, way -> true) < WHOLE, true);
        due("nothing is lost", Scenes.gray("strict", 0).likely(0, 8), WHOLE);
        due("all is lost", Scenes.gray("strict", 100).likely(0, 1), 0);
        due("all is lost", Scenes.gray("strict", 100).lost(0, 8), WHOLE);
        // 10 to the 9, 10 to the 7, 100000, 1000, 10, 0: six wasted ones of 1 in 100 weigh nothing.
        TuneDoor six = Scenes.gray("window 40 0", 1);
        due("five", six.likely(0, 5) - together(1, 5, way -> way != 31), 0);
        due("five weigh nothing", together(1, 5, way -> way == 31), 0);
        due("four weigh 10", together(1, 4, way -> way == 15), 10);
        due("eight of 8 in 100 weigh 1", together(8, 8, way -> way == 255), 1);
    }

    private static TuneDoor losing(String kind, int person, int ear) {
        TuneDoor x = Scenes.gray(kind, 25);
        Scenes.put(x, person, ear, NONE, 0);
        return x;
    }

    private static void comingsThatCannotBe() {
        CHECK.sentence("(A COMING that can't be lets nobody in; WASTED at a COUNT of 1000 is nothing.)");
        TuneDoor last = losing("window 40 0", 999, 999);
        due("999, if not wasted", last.likely(0, 1), 750000000);
        due("or 1000, which can't be", last.lost(0, 1), 250000000);
        due("none behind it", last.likely(0, 2), 0);
        due("none behind it", last.lost(0, 2), WHOLE);
        TuneDoor two = losing("window 40 0", 998, 998);
        due("998 or 999", two.likely(0, 1), WHOLE);
        due("998 and 999", two.likely(0, 2), 562500000);
        due("one of them can't be", two.lost(0, 2), WHOLE - 562500000);
        due("none behind it", two.likely(0, 3), 0);
        TuneDoor none = losing("window 0 9", 1000, 1000);
        for (int n = 1; n <= 8; n++) {
            due("nobody comes", none.likely(0, n), 0);
            due("all are kept out", none.lost(0, n), together(25, n, way -> true));
        }
        // WHISTLE 999 is heard again and again: by one who still may come.
        TuneDoor back = losing("window 0 9", 992, 1000);
        due("by the eighth, if none is wasted", back.likely(0, 8), together(25, 8, way -> way == 0));
        due("kept out otherwise", back.lost(0, 8), together(25, 8, way -> way != 0));
        due("by the seventh, if one is wasted at most", back.likely(0, 7), together(25, 7, way -> Integer.bitCount(way) <= 1));
    }

    private static void lostAsked() {
        CHECK.sentence("in which one is kept out (or can't come) in some COMING of n (1 .. 8); -1 if it can't be");
        TuneDoor x = Scenes.gray("pair 2", 25);
        String state = Scenes.state(x);
        due("kept out by the first", x.lost(0, 1), 250000000);
        // One wasted, then none: kept out, then let in, which counts for both.
        due("let in by the second", x.likely(0, 2), 562500000 + 187500000);
        due("kept out by either", x.lost(0, 2), 437500000);
        due("eight", x.lost(0, 8), together(25, 8, way -> way != 0));
        due("all stays", Scenes.state(x).equals(state), true);
    }

    // ---- promise 24

    private static void bearing() {
        CHECK.sentence("The most WHISTLES, 60 at most, that a PERSON may have WASTED from now on, and any fewer, to be let in by the COMING behind that; "
            + "NONE if not even by none, or there is no such PERSON.");
        // WHISTLES 0 .. k are one and the same tune, the next one is another.
        String until = "notes 6 long 2; tune a 0 0 keep 0; note old when kept<%d; kept kept+1 when kept<99;" + ONE;
        int[][] bears = {{0, 0}, {1, 1}, {58, 58}, {59, 59}, {60, 60}, {61, 60}, {62, 60}, {90, 60}};
        for (int[] one : bears) {
            due(one[0] + " alike", Check.told(String.format(until, one[0])).bears(0), one[1]);
        }
        due("40 of 40", Scenes.gray("window 40 0").bears(0), 40);
        due("39 from 1 on", Scenes.gray("window 40 0", 51, 50).bears(0), 39);
        due("none from 40 on", Scenes.gray("window 40 0", 90, 50).bears(0), 0);
        due("not even by none", Scenes.gray("window 40 0", 91, 50).bears(0), NONE);
        due("from behind on", Scenes.gray("window 40 9", 41, 50).bears(0), 49);
        due("too far behind", Scenes.gray("window 40 9", 40, 50).bears(0), NONE);
        due("each by itself: no TRIES between", Scenes.gray("reset 0 1").bears(0), 0);
        due("nothing half heard between", Scenes.gray("pair 40").bears(0), 0);
        due("WHISTLE 3 is 0 again, 1 is not", Check.told("notes 3 long 2; tune a 0 0 keep 0;" + ONE).bears(0), 0);
        String still = "notes 6 long 2; tune a 0 0 keep 0; " + Scenes.STILL + "door d strict; person p door d tune a loses 0 errs 0;";
        int[][] ends = {{938, 60}, {939, 60}, {940, 59}, {998, 1}, {999, 0}, {1000, NONE}};
        for (int[] one : ends) {
            TuneDoor x = Check.told(still);
            Scenes.put(x, one[0], 0, NONE, 0);
            String state = Scenes.state(x);
            due("from " + one[0] + " on", x.bears(0), one[1]);
            due("all stays", Scenes.state(x).equals(state), true);
        }
        due("person 1", Check.told(still).bears(1), NONE);
        due("person -1", Check.told(still).bears(-1), NONE);
    }

    // ---- promise 25

    private static void strangersCounted() {
        CHECK.sentence("How many tunes would OPEN a DOOR now (tries NONE)");
        due("strict", Scenes.gray("strict", 0, 50).stranger(0, NONE), 1);
        due("strict at 999", Scenes.gray("strict", 0, 999).stranger(0, NONE), 1);
        due("strict at 1000", Scenes.gray("strict", 0, 1000).stranger(0, NONE), 0);
        int[][] windows = {{0, 41}, {1, 42}, {9, 50}, {10, 50}, {50, 50}, {959, 50}, {960, 49}, {999, 10}, {1000, 9}};
        for (int[] one : windows) {
            due("window 40 9 at " + one[0], Scenes.gray("window 40 9", 0, one[0]).stranger(0, NONE), one[1]);
        }
        due("window 0 0", Scenes.gray("window 0 0", 0, 50).stranger(0, NONE), 1);
        due("reset, too few TRIES", Scenes.gray("reset 3 2", 0, 50, NONE, 1).stranger(0, NONE), 4);
        due("reset, TRIES enough", Scenes.gray("reset 3 2", 0, 50, NONE, 2).stranger(0, NONE), 41);
        due("reset at the end", Scenes.gray("reset 3 2", 0, 998, NONE, 255).stranger(0, NONE), 2);
        due("pair", Scenes.gray("pair 40", 0, 50).stranger(0, NONE), 1);
        due("pair, 60 half heard", Scenes.gray("pair 40", 0, 50, 60, 1).stranger(0, NONE), 2);
        due("pair, both one and the same", Scenes.gray("pair 40", 0, 50, 49, 1).stranger(0, NONE), 1);
        due("pair, 998 half heard", Scenes.gray("pair 40", 0, 990, 998, 1).stranger(0, NONE), 2);
        due("pair, 999 half heard", Scenes.gray("pair 40", 0, 990, 999, 1).stranger(0, NONE), 1);
        due("pair, 0 half heard", Scenes.gray("pair 40", 0, 990, 0, 1).stranger(0, NONE), 2);
        due("like tunes count once", Check.told("notes 3 long 2; tune a 0 0 keep 0; door d window 40 0; person p door d tune a loses 0 errs 0;")
            .stranger(0, NONE), 3);
        due("without EARS", Check.told(Scenes.GRAY + "door d lip 40 4;").stranger(0, NONE), 0);
        String ears = Scenes.GRAY + "tune b 2 2 0 keep 0; tune c 0 0 1 keep 0; door d window 40 0; person p door d tune a loses 0 errs 0;"
            + "person q door d tune b loses 0 errs 0; person r door d tune c loses 0 errs 0;";
        due("0 .. 40, 100 .. 140, 1 .. 41", Check.told(ears).stranger(0, NONE), 83);
        TuneDoor x = Scenes.gray("window 40 9", 0, 50);
        String state = Scenes.state(x);
        due("asked", x.stranger(0, NONE), 50);
        due("asked again", x.stranger(0, NONE), 50);
        due("all stays", Scenes.state(x).equals(state), true);
    }

    private static void strangersByLip() {
        CHECK.sentence("of all tunes there are (NOTES to the LENGTH) those that would OPEN a DOOR now");
        int[][] kinds = {{0, 0, 50}, {0, 1, 50}, {0, 2, 50}, {0, 3, 50}, {0, 4, 50}, {40, 0, 50}, {40, 1, 50}, {7, 2, 50}, {40, 1, 990}, {40, 1, 999},
            {40, 4, 1000}};
        for (int[] one : kinds) {
            int want = 0;
            for (int number = 0; number < 216; number++) {
                boolean opens = false;
                for (int n = one[2]; n <= Math.min(999, one[2] + one[0]); n++) {
                    opens |= Scenes.unlike(number, Scenes.grayNumber(n)) <= one[1];
                }
                want += opens ? 1 : 0;
            }
            String kind = "lip " + one[0] + " " + one[1];
            due(kind + " at " + one[2], Scenes.gray(kind, 0, one[2]).stranger(0, NONE), want);
        }
        String person = "person p door d tune a loses 0 errs 0;";
        String most = "notes 6 long 5; tune a 5 5 5 5 5 keep 0; " + Scenes.STILL + "door d lip 40 %d; " + person;
        int[] want = {1, 26, 276, 1526, 4651};
        for (int k = 0; k <= 4; k++) {
            due("of 7776, but " + k + " notes", Check.told(String.format(most, k)).stranger(0, NONE), want[k]);
        }
        due("all of 4", Check.told("notes 2 long 2; tune a 0 0 keep 0; door d lip 0 2; " + person).stranger(0, NONE), 4);
        due("3 of 4", Check.told("notes 2 long 2; tune a 0 0 keep 0; door d lip 0 1; " + person).stranger(0, NONE), 3);
    }

    private static long tried(int opening, int all, int tries) {
        long left = WHOLE;
        for (int i = 0; i < tries; i++) {
            left = left * (all - opening) / all;
        }
        return WHOLE - left;
    }

    private static void strangersByTries() {
        CHECK.sentence("or A STRANGER by tries (0 .. 500); -1 if it can't be");
        TuneDoor x = Scenes.gray("window 6 0");
        for (int tries : new int[] {0, 1, 2, 3, 50, 499, 500}) {
            due(tries + " tries", x.stranger(0, tries), tried(7, 216, tries));
        }
        due("no try lets nobody in", x.stranger(0, 0), 0);
        for (int tries : new int[] {501, -2, Integer.MIN_VALUE, Integer.MAX_VALUE}) {
            due(tries + " tries", x.stranger(0, tries), -1);
        }
        for (int door : new int[] {1, -1, Integer.MAX_VALUE}) {
            due("door " + door, x.stranger(door, 1), -1);
            due("door " + door, x.stranger(door, NONE), -1);
        }
        TuneDoor any = Scenes.gray("lip 0 3");
        due("any tune, no try", any.stranger(0, 0), 0);
        due("any tune, one try", any.stranger(0, 1), WHOLE);
        due("any tune, 500 tries", any.stranger(0, 500), WHOLE);
        TuneDoor none = Scenes.gray("strict", 0, 1000);
        due("no tune, one try", none.stranger(0, 1), 0);
        due("no tune, 500 tries", none.stranger(0, 500), 0);
    }

    // ---- promise 26

    private static void nearest() {
        CHECK.sentence("of WHISTLES COUNT .. COUNT and A of all its EARS (A: N of the KIND, the first one; 0 of strict) two unlike tunes "
            + "that are least apart: in how many notes");
        // WHISTLES 0 .. 3 are one and the same tune, 4 is another.
        String text = "notes 6 long 2; tune a 0 0 keep 0; note old when kept<3; kept kept+1 when kept<99; door d %s; person p door d tune a loses 0 errs 0;";
        String[] three = {"strict", "window 3 9", "pair 3", "lip 3 4", "reset 3 1"};
        String[] four = {"window 4 0", "pair 4", "lip 4 0", "reset 4 9"};
        CHECK.sentence("NEAR; NONE if there are no two unlike ones, or no such DOOR.");
        for (String kind : three) {
            due(kind, Check.told(String.format(text, kind)).near(0), NONE);
        }
        for (String kind : four) {
            due(kind, Check.told(String.format(text, kind)).near(0), 1);
        }
        TuneDoor reset = Check.told(String.format(text, "reset 3 1"));
        Scenes.put(reset, 0, 0, NONE, 255);
        due("TRIES count for nothing", reset.near(0), NONE);
        TuneDoor behind = Check.told(String.format(text, "window 0 9"));
        Scenes.put(behind, 0, 5, NONE, 0);
        due("what is behind counts for nothing", behind.near(0), NONE);
        TuneDoor pair = Check.told(String.format(text, "pair 1"));
        Scenes.put(pair, 0, 0, 9, 0);
        due("what is half heard counts for nothing", pair.near(0), NONE);
        due("door 1", reset.near(1), NONE);
        due("door -1", reset.near(-1), NONE);
        due("without EARS", Check.told(Scenes.GRAY + "door d window 40 0;").near(0), NONE);
        String ears = "notes 6 long 5; tune a 0 0 0 0 0 keep 0; tune b %s keep 0; tune c %s keep 0; " + Scenes.STILL + "door d window 40 0;"
            + "person p door d tune a loses 0 errs 0; person q door d tune b loses 0 errs 0; person r door d tune c loses 0 errs 0;";
        due("all alike", Check.told(String.format(ears, "0 0 0 0 0", "0 0 0 0 0")).near(0), NONE);
        due("five notes", Check.told(String.format(ears, "1 1 1 1 1", "2 2 2 2 2")).near(0), 5);
        due("like ones count for nothing", Check.told(String.format(ears, "1 1 1 1 1", "1 1 1 1 1")).near(0), 5);
        due("four notes, by the last", Check.told(String.format(ears, "1 1 1 1 1", "2 2 2 2 1")).near(0), 4);
        due("three notes", Check.told(String.format(ears, "5 4 3 0 0", "4 4 5 1 1")).near(0), 3);
        due("two notes, ahead of three", Check.told(String.format(ears, "0 1 0 0 1", "1 1 1 1 1")).near(0), 2);
        due("one note, behind two", Check.told(String.format(ears, "1 1 0 0 0", "1 0 0 0 0")).near(0), 1);
        due("two notes, behind three", Check.told(String.format(ears, "1 0 1 0 1", "1 0 2 0 0")).near(0), 2);
    }

    private static void nearestOfAllEars() {
        CHECK.sentence("of WHISTLES COUNT .. COUNT and A of all its EARS");
        // All stay but c, which becomes another tune by WHISTLE 40: the last one of three EARS with 41 each.
        String ears = "notes 6 long 2; tune a 0 0 keep 0; tune b 0 0 keep 0; tune c 0 0 keep 60; note old when not kept=99; kept kept+1 when kept>0 and kept<99;"
            + "door d window %d 0; person p door d tune a loses 0 errs 0; person q door d tune b loses 0 errs 0; person r door d tune c loses 0 errs 0;";
        due("up to 40", Check.told(String.format(ears, 40)).near(0), 1);
        due("up to 39", Check.told(String.format(ears, 39)).near(0), NONE);
    }

    private static void nearestAtTheEnd() {
        CHECK.sentence("NEAR; NONE if there are no two unlike ones, or no such DOOR.");
        due("998 and 999", Scenes.gray("window 40 0", 0, 998).near(0), 1);
        due("999 alone", Scenes.gray("window 40 9", 0, 999).near(0), NONE);
        due("none", Scenes.gray("window 40 9", 0, 1000).near(0), NONE);
    }

    // ---- promise 27

    private static void costsAsked() {
        CHECK.sentence("COST of a window A (0 .. 20), n 1 .. 6 (what 0), or THE BEST WINDOW (1; A counts for nothing). NONE if it can't be, or for others.");
        TuneDoor x = Check.told(Scenes.GRAY + "door d strict; person p door d tune a loses 25 errs 0; worth 216 216;");
        String state = Scenes.state(x);
        // A strict window costs 216 times what is lost, and 1.
        for (int n = 1; n <= 6; n++) {
            long in = together(25, n, way -> way == 0);
            due("n " + n, x.cost(0, n, 0, 0), (216 * (WHOLE - in) + 216 * tried(1, 216, 1)) / WHOLE);
        }
        due("window 20", x.cost(0, 6, 20, 0), 21);
        due("window 19", x.cost(0, 6, 19, 0), 20);
        due("the best for one", x.cost(0, 1, 0, 1), 1);
        due("the best for six", x.cost(0, 6, 0, 1), bestOfSix(x));
        for (int window : new int[] {-1, 21, Integer.MIN_VALUE, Integer.MAX_VALUE}) {
            due("window " + window, x.cost(0, 1, window, 0), NONE);
            due("the best, window " + window, x.cost(0, 1, window, 1), 1);
        }
        for (int n : new int[] {0, 7, -1, Integer.MAX_VALUE}) {
            due("n " + n, x.cost(0, n, 0, 0), NONE);
            due("the best, n " + n, x.cost(0, n, 0, 1), NONE);
        }
        for (int what : new int[] {-1, 2, Integer.MAX_VALUE}) {
            due("what " + what, x.cost(0, 1, 0, what), NONE);
        }
        for (int person : new int[] {-1, 1}) {
            due("person " + person, x.cost(person, 1, 0, 0), NONE);
            due("the best, person " + person, x.cost(person, 1, 0, 1), NONE);
        }
        due("all stays", Scenes.state(x).equals(state), true);
    }

    private static int bestOfSix(TuneDoor x) {
        int best = 0;
        for (int a = 20; a >= 0; a--) {
            best = x.cost(0, 6, a, 0) <= x.cost(0, 6, best, 0) ? a : best;
        }
        return best;
    }

    private static void costsFloored() {
        CHECK.sentence("floor((the first worth times (10 to the 9 less LIKELY) and the second one times A STRANGER by one try) / 10 to the 9)");
        // Half lost, one of four tunes: 1/2 and 2 times 1/4 are one whole together, 49/100 and 1/2 are not.
        String text = "notes 2 long 2; tune a 0 0 keep 0; door d strict; person p door d tune a loses %d errs 0; worth %d %d;";
        due("together 1", Check.told(String.format(text, 50, 1, 2)).cost(0, 1, 0, 0), 1);
        due("below 1", Check.told(String.format(text, 49, 1, 2)).cost(0, 1, 0, 0), 0);
        due("the first alone", Check.told(String.format(text, 50, 9999, 0)).cost(0, 1, 0, 0), 4999);
        due("the second alone", Check.told(String.format(text, 50, 0, 9999)).cost(0, 1, 0, 0), 2499);
        due("nothing is worth anything", Check.told(String.format(text, 50, 0, 0)).cost(0, 1, 0, 0), 0);
        // Nobody comes, and each tune opens: both whole.
        TuneDoor most = Check.told("notes 2 long 2; tune a 0 0 keep 0; place sum when all; door d strict; person p door d tune a loses 0 errs 0; worth 9999 9999;");
        Scenes.put(most, 1000, 0, NONE, 0);
        due("the greatest", most.cost(0, 1, 20, 0), 19998);
        due("without worth, 1 and 1", Check.told(Scenes.GRAY + "door d strict; person p door d tune a loses 100 errs 0;").cost(0, 1, 0, 0), 1);
    }

    private static void costOfOtherDoors() {
        CHECK.sentence("its DOOR being a window A 0 then");
        String[] kinds = {"strict", "window 40 9", "pair 40", "lip 40 4", "reset 40 1"};
        for (String kind : kinds) {
            String text = Scenes.GRAY + "door d " + kind + "; person p door d tune a loses 0 errs 0; ";
            for (int d : new int[] {-1, 0, 5, 6}) {
                TuneDoor x = Check.told(text + "worth 1000 0;");
                Scenes.put(x, 50 + d, 50, kind.startsWith("pair") ? 54 : NONE, 255);
                due(kind + " and " + d, x.cost(0, 1, 5, 0), d >= 0 && d <= 5 ? 0 : 1000);
                due("its kind stays", x.door(0, 1), kind.equals("strict") ? 0 : 40);
            }
            TuneDoor y = Check.told(text + "worth 0 216;");
            Scenes.put(y, 0, 50, kind.startsWith("pair") ? 99 : NONE, 255);
            due(kind + " for a stranger", y.cost(0, 1, 5, 0), 6);
        }
    }

    private static void bestWindow() {
        CHECK.sentence("THE BEST WINDOW: of A 0 .. 20 with the least COST, the first of like ones.");
        int[][] cases = {{0, 0}, {1, 1}, {7, 7}, {19, 19}, {20, 20}, {21, 0}, {40, 0}, {1000, 0}};
        for (int[] one : cases) {
            TuneDoor x = Check.told(Scenes.GRAY + ONE + "worth 9999 216;");
            Scenes.put(x, one[0], 0, NONE, 0);
            due(one[0] + " ahead", x.cost(0, 1, 0, 1), one[1]);
            TuneDoor free = Check.told(Scenes.GRAY + ONE + "worth 9999 0;");
            Scenes.put(free, one[0], 0, NONE, 0);
            due(one[0] + " ahead, the first of like ones", free.cost(0, 1, 0, 1), one[1]);
        }
        due("all alike", Check.told(Scenes.GRAY + ONE + "worth 0 0;").cost(0, 6, 0, 1), 0);
    }

    // ---- promises 28 to 30

    private static void formsKnown() {
        CHECK.sentence("How many FORMS FIT k WHISTLES (1 .. 30) of a TUNE from n on; NONE if it can't be.");
        CHECK.sentence("a, b 0 .. LENGTH less 1, c 1 .. NOTES less 1");
        for (int notes = 2; notes <= 6; notes++) {
            for (int length = 2; length <= 5; length++) {
                TuneDoor x = Check.told("notes " + notes + " long " + length + "; tune a" + " 1".repeat(length) + " keep 0;");
                due("all of " + notes + " " + length, x.knows(0, 0, 1), length * length * (notes - 1));
                due("all at the last", x.knows(0, 999, 1), length * length * (notes - 1));
                due("two, which leave a free", x.knows(0, 0, 2), length);
            }
        }
        // By the greatest of all: (4, 4, 5) of six notes, five long.
        TuneDoor most = Check.told("notes 6 long 5; tune a 0 0 0 0 0 keep 0; place 4*sum+4 when all; note old+5 when all;");
        due("the greatest alone", most.knows(0, 0, 30), 1);
        TuneDoor x = Check.told(Scenes.GRAY);
        for (int k : new int[] {0, 31, -1, Integer.MIN_VALUE, Integer.MAX_VALUE}) {
            due("k " + k, x.knows(0, 0, k), NONE);
        }
        for (int n : new int[] {-1, 1000, Integer.MIN_VALUE, Integer.MAX_VALUE}) {
            due("n " + n, x.knows(0, n, 1), NONE);
        }
        due("up to 999", x.knows(0, 970, 30) >= 0, true);
        due("up to 1000", x.knows(0, 971, 30), NONE);
        due("999 and 1000", x.knows(0, 999, 2), NONE);
        due("tune 1", x.knows(1, 0, 1), NONE);
        due("tune -1", x.knows(-1, 0, 1), NONE);
        TuneDoor still = Check.told("notes 6 long 5; tune a 0 0 0 0 0 keep 0; " + Scenes.STILL);
        due("one, all", still.knows(0, 0, 1), 125);
        due("two alike, none", still.knows(0, 0, 2), 0);
    }

    /** By the form (0, 0, 2) of five notes, four long; its first note goes 1 3 0 2 4 1, as told from one of them on. */
    private static TuneDoor byTwo(int first) {
        return Check.told("notes 5 long 4; tune a " + first + " 0 0 0 keep 0; note old+2 when all;");
    }

    private static void formsSure() {
        CHECK.sentence("the least k, 2 .. 30, with which, k WHISTLES from one on being heard, some FORM FITS and all that FIT make one and the same next tune");
        // The sums 1, 3, 0: two WHISTLES leave a free, three leave 0 and 2, and only the fourth one tells these apart.
        // No tune needs more: each one heard leaves one form, or halves them; so 30 is never the least.
        TuneDoor x = byTwo(1);
        due("two leave", x.knows(0, 0, 2), 4);
        due("three leave", x.knows(0, 0, 3), 2);
        due("four leave", x.knows(0, 0, 4), 1);
        due("sure by four", x.sure(0, 0), 4);
        CHECK.sentence("SURE from WHISTLE n on; NONE without, or if it can't be.");
        due("996 .. 999", byTwo(4).sure(0, 996), 4);
        due("997 .. 1000", byTwo(2).sure(0, 997), NONE);
        // Its first note goes 0 2 0 2 ..: an even sum leaves a free, and yet the next is sure.
        TuneDoor even = Check.told("notes 4 long 2; tune a 0 0 keep 0; note old+2 when all;");
        due("two forms", even.knows(0, 0, 2), 2);
        due("one next tune", even.sure(0, 0), 2);
        due("never one alone", even.sure(0, 500), 2);
        due("998 and 999", even.sure(0, 998), 2);
        due("999 alone", even.sure(0, 999), NONE);
        due("n 1000", even.sure(0, 1000), NONE);
        due("n -1", even.sure(0, -1), NONE);
        due("n MAX", even.sure(0, Integer.MAX_VALUE), NONE);
        due("tune 1", even.sure(1, 0), NONE);
        due("tune -1", even.sure(-1, 0), NONE);
        due("no form", Check.told("notes 4 long 2; tune a 0 0 keep 0; " + Scenes.STILL).sure(0, 0), NONE);
        // Heard 10 11, (0, 1, 1) and (1, 0, 1) fit, which stand side by side; they make 10 and 01.
        TuneDoor beside = Check.told("notes 2 long 2; tune a 1 0 keep 0; place 1 when all;");
        due("two leave two", beside.knows(0, 0, 2), 2);
        due("sure by three", beside.sure(0, 0), 3);
        // Heard 00 10, two forms fit that do not agree; then 11 leaves one of them, 12 leaves none.
        String third = "notes 4 long 2; tune a 0 0 keep 0; place 1 when first=1; ";
        due("two leave two", Check.told(third).knows(0, 0, 2), 2);
        due("sure by three", Check.told(third).sure(0, 0), 3);
        due("none is left", Check.told(third + "note old+2 when first=1;").knows(0, 0, 3), 0);
        due("never sure", Check.told(third + "note old+2 when first=1;").sure(0, 0), NONE);
    }

    private static void formsRight() {
        CHECK.sentence("Whether the next tune that the first of the FORMS that FIT (by a, then b, then c) makes is the right one: 1, 0; "
            + "NONE if none FITS, or it can't be.");
        // The first form of all is (0, 0, 1): the first note one more.
        TuneDoor plain = Check.told("notes 3 long 3; tune a 0 0 0 keep 0;");
        due("the first of all, right", plain.right(0, 0, 1), 1);
        due("by b", Check.told("notes 3 long 3; tune a 0 0 0 keep 0; place 1 when all;").right(0, 0, 1), 0);
        due("by c", Check.told("notes 3 long 3; tune a 0 0 0 keep 0; note old+2 when all;").right(0, 0, 1), 0);
        // Heard 000 001: (0, 2, 1), (1, 2, 1) and (2, 2, 1) fit; the first of them makes 002, the next one 101.
        String heard = "notes 3 long 3; tune a 0 0 0 keep 0; place 2+sum*%d when all;";
        due("three fit", Check.told(String.format(heard, 0)).knows(0, 0, 2), 3);
        due("by a 0, right", Check.told(String.format(heard, 0)).right(0, 0, 2), 1);
        due("by a 1, not right", Check.told(String.format(heard, 1)).right(0, 0, 2), 0);
        due("by a 1, right by three", Check.told(String.format(heard, 1)).right(0, 0, 3), 1);
        due("none fits", Check.told("notes 3 long 3; tune a 0 0 0 keep 0; " + Scenes.STILL).right(0, 0, 2), NONE);
        for (int k : new int[] {0, 31, -1, Integer.MAX_VALUE}) {
            due("k " + k, plain.right(0, 0, k), NONE);
        }
        due("k 30", plain.right(0, 0, 30), 1);
        due("969 .. 998, then 999", plain.right(0, 969, 30), 1);
        due("970 .. 999, then none", plain.right(0, 970, 30), NONE);
        due("998, then 999", plain.right(0, 998, 1), 1);
        due("999, then none", plain.right(0, 999, 1), NONE);
        for (int n : new int[] {-1, 1000, Integer.MIN_VALUE, Integer.MAX_VALUE}) {
            due("n " + n, plain.right(0, n, 1), NONE);
        }
        due("tune 1", plain.right(1, 0, 1), NONE);
        due("tune -1", plain.right(-1, 0, 1), NONE);
    }

    // ---- promises 31 and 32

    /** b stays 1 1 4, and a becomes that by the WHISTLE behind the 900s' one with so many KEPT. */
    private static TuneDoor meeting(int kept) {
        return Check.told("notes 6 long 3; tune a 0 0 0 keep 0; tune b 1 1 4 keep 0; tune c 1 2 3 keep 0;"
            + "door d strict; person p door d tune b loses 0 errs 0; place 2 when kept=0;"
            + "place 1 when kept=1 and last=0; note old when first=1; note old+1 when kept=0; note old+1 when kept=1 and last=0;"
            + "note 1 when kept=" + kept + " and last=4 and sum=5; note old when all; kept kept+1 when all;");
    }

    private static void sameTunes() {
        CHECK.sentence("The first WHISTLE of a TUNE, of 0 .. 998, that is one of another TUNE's (by number) 0 .. 998 (what 0), the first of these (1); "
            + "NONE without, if there are no such two, or for others.");
        TuneDoor x = meeting(97);
        due("first alike", x.find(0, 0, x.note(1, 0, NONE)), 998);
        due("998 of a", x.same(0, 1, 0), 998);
        due("is 0 of b", x.same(0, 1, 1), 0);
        due("0 of b", x.same(1, 0, 0), 0);
        due("is 998 of a", x.same(1, 0, 1), 998);
        TuneDoor y = meeting(98);
        due("first alike", y.find(0, 0, y.note(1, 0, NONE)), 999);
        for (int what = 0; what < 2; what++) {
            due("999 of a", y.same(0, 1, what), NONE);
            due("0 of b", y.same(1, 0, what), NONE);
            due("none", y.same(0, 2, what), NONE);
            due("one and the same", y.same(0, 0, what), NONE);
            due("tune 3", y.same(0, 3, what), NONE);
            due("of tune 3", y.same(3, 0, what), NONE);
            due("tune -1", y.same(0, -1, what), NONE);
            due("of tune -1", y.same(-1, 0, what), NONE);
        }
        due("what 2", x.same(0, 1, 2), NONE);
        due("what -1", x.same(0, 1, -1), NONE);
        TuneDoor gray = Check.told(Scenes.GRAY + "tune b 2 2 0 keep 0; tune c 0 0 1 keep 0;");
        due("0 of a", gray.same(0, 1, 0), 0);
        due("is 116 of b, the first", gray.same(0, 1, 1), 116);
        due("0 of b", gray.same(1, 0, 0), 0);
        due("is 100 of a", gray.same(1, 0, 1), 100);
        due("is 215 of c", gray.same(0, 2, 1), 215);
    }

    /** a and b go alike, b with 50 more KEPT, until the last WHISTLES: behind the one with this KEPT, a is another tune. */
    private static TuneDoor parting(int kept) {
        String now = "kept=" + kept + " and last=1 and sum=5";
        return Check.told("notes 6 long 3; tune a 0 0 0 keep 0; tune b 0 0 0 keep 50; place 0 when " + now + "; place 2 when kept%50=49;"
            + "place 1 when kept%50=0 and last=0; note 3 when " + now + "; note old+1 when kept%50=49; note old+1 when kept%50=0 and last=0;"
            + "note old when all; kept kept+1 when kept%50<49; kept kept-49 when all;");
    }

    private static void telling() {
        CHECK.sentence("the least k with which their k-th ones are unlike; NONE if none is up to 999, or if it can't be (unlike TUNES)");
        TuneDoor x = parting(48);
        due("998 alike", x.note(0, 998, NONE), x.note(1, 998, NONE));
        due("999 unlike", x.note(0, 999, NONE) == x.note(1, 999, NONE), false);
        due("all of them", x.tells(0, 1, 0), 1000);
        due("the other way", x.tells(1, 0, 0), 1000);
        due("from 1 on", x.tells(0, 1, 1), 999);
        due("from 998 on", x.tells(0, 1, 998), 2);
        due("from 999 on", x.tells(0, 1, 999), 1);
        due("from 1000 on", x.tells(0, 1, 1000), NONE);
        due("from -1 on", x.tells(0, 1, -1), NONE);
        due("from MIN on", x.tells(0, 1, Integer.MIN_VALUE), NONE);
        due("from MAX on", x.tells(0, 1, Integer.MAX_VALUE), NONE);
        due("one and the same", x.tells(0, 0, 0), NONE);
        due("tune 2", x.tells(0, 2, 0), NONE);
        due("of tune 2", x.tells(2, 0, 0), NONE);
        due("tune -1", x.tells(0, -1, 0), NONE);
        due("of tune -1", x.tells(-1, 0, 0), NONE);
        TuneDoor y = parting(49);
        due("999 alike, 1000 would not be", y.tells(0, 1, 0), NONE);
        due("from 999 on", y.tells(0, 1, 999), NONE);
        TuneDoor z = Check.told(Scenes.GRAY + "tune b 2 2 0 keep 0;");
        due("at once", z.tells(0, 1, 0), 1);
        due("at once, at last", z.tells(0, 1, 999), 1);
    }

    // ---- promise 33

    private static void birds() {
        CHECK.sentence("on so many mornings (1 .. 100) at a DOOR: how often it is let in; NONE if it can't be. (All stays.)");
        TuneDoor x = Scenes.gray("window 5 1", 0, 50);
        String state = Scenes.state(x);
        due("one morning", x.bird(0, 0, 55, 1), 1);
        due("100 mornings", x.bird(0, 0, 55, 100), 100);
        due("beyond it", x.bird(0, 0, 56, 100), 0);
        due("behind it", x.bird(0, 0, 49, 100), 100);
        due("too far behind", x.bird(0, 0, 48, 100), 0);
        for (int mornings : new int[] {0, 101, -1, Integer.MAX_VALUE, Integer.MIN_VALUE}) {
            due(mornings + " mornings", x.bird(0, 0, 55, mornings), NONE);
        }
        for (int n : new int[] {-1, 1000, Integer.MAX_VALUE}) {
            due("whistle " + n, x.bird(0, 0, n, 1), NONE);
        }
        for (int which : new int[] {-1, 1}) {
            due("tune " + which, x.bird(0, which, 0, 1), NONE);
            due("door " + which, x.bird(which, 0, 0, 1), NONE);
        }
        due("all stays", Scenes.state(x).equals(state), true);
        due("the first whistle", Scenes.gray("strict").bird(0, 0, 0, 100), 1);
        due("the last whistle", Scenes.gray("strict", 0, 999).bird(0, 0, 999, 100), 1);
        due("an EAR at 1000", Scenes.gray("window 9 9", 0, 1000).bird(0, 0, 991, 7), 7);
        // TRIES go on from one morning to the next; once let in, the whistle is behind.
        due("reset, one too few", Scenes.gray("reset 0 9").bird(0, 0, 40, 9), 0);
        due("reset, enough", Scenes.gray("reset 0 9").bird(0, 0, 40, 10), 1);
        due("reset, once alone", Scenes.gray("reset 0 9").bird(0, 0, 40, 100), 1);
        due("a tune of nobody here", Check.told(Scenes.GRAY + "tune b 0 0 0 keep 0; door d strict; person p door d tune a loses 0 errs 0;").bird(0, 1, 0, 3), 1);
        due("a DOOR without EARS", Check.told(Scenes.GRAY + "door d lip 40 4;").bird(0, 0, 0, 3), 0);
    }

    /** All that is only asked, whatever was asked ahead of it. */
    private static long[] asked(TuneDoor x, int turn) {
        long[] all = new long[14];
        for (int i = 0; i < all.length; i++) {
            int which = (i * 3 + turn) % all.length;
            all[which] = askedOne(x, which);
        }
        return all;
    }

    private static long askedOne(TuneDoor x, int which) {
        switch (which) {
            case 0: return x.stranger(0, NONE);
            case 1: return x.stranger(1, NONE);
            case 2: return x.same(0, 1, 1);
            case 3: return x.near(0);
            case 4: return x.cost(0, 2, 3, 0);
            case 5: return x.cost(1, 2, 3, 1);
            case 6: return x.likely(1, 4);
            case 7: return x.mend(0);
            case 8: return x.bird(1, 1, 3, 9);
            case 9: return x.knows(0, 3, 3);
            case 10: return x.sure(1, 3);
            case 11: return x.would(1);
            case 12: return x.bears(1);
            default: return x.same(1, 0, 0);
        }
    }

    private static void askingChangesNothing() {
        CHECK.sentence("(All stays.)");
        String text = Scenes.GRAY + "tune b 2 2 0 keep 0; door d window 9 9; door e lip 3 1; person p door d tune a loses 30 errs 0;"
            + "person q door e tune b loses 40 errs 0; person r door d tune b loses 0 errs 0; worth 216 432;";
        long[] first = asked(Check.told(text), 0);
        TuneDoor x = Check.told(text);
        for (int turn = 0; turn < 14; turn++) {
            long[] again = asked(x, turn);
            for (int i = 0; i < first.length; i++) {
                due("question " + i + ", turn " + turn, again[i], first[i]);
            }
        }
        due("strangers at the window", first[0], 20);
        // WHISTLES as late as can be, asked about between two questions about strangers.
        TuneDoor late = meeting(97);
        for (int i = 0; i < 5; i++) {
            due("the one tune", late.stranger(0, NONE), 1);
            due("so late", late.same(1, 0, 1), 998);
        }
    }
}
