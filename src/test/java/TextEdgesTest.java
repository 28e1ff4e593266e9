/** Boundary cases, sentence by sentence: a new object, the tape, the text of a house and its FAULTS (promises 1 to 7, Terms I). */
public final class TextEdgesTest {
    private static final int NONE = TuneDoor.NONE;
    private static final Check CHECK = new Check();
    private static final String[] OWN_WORDS = ("notes long tune keep place note kept door strict window pair lip reset person loses "
        + "errs worth when or and not all sum first last old here min max").split(" ");
    private static final String HEAD = "notes 3 long 2; ";
    private static final String SOME = HEAD + "tune a 0 0 keep 0; door d strict; ";
    private static final String PERSON = " door d tune a loses 0 errs 0;";

    public static void main(String[] args) {
        newObject();
        feedGives();
        feedRefused();
        endCuts();
        endRefused();
        statementsCounted();
        tapeGoes();
        allStaysWithFault();
        withoutStatement();
        allIsNewWithoutFault();
        longTexts();
        seedStays();
        refusalsStay();
        faultAsked();
        hasAsked();
        lettersAsked();
        wordsAndNumbers();
        blanks();
        sideBySide();
        notesAndLength();
        notesFirstAndAlone();
        tuneNumbers();
        rulesCounted();
        doorNumbers();
        personNumbers();
        worthNumbers();
        ownWords();
        namesUnlike();
        namesToldAhead();
        firstAlongTheText();
        noHouseGoesOn();
        endsTooSoon();
        seventhLetter();
        oneTooMany();
        ninthBracket();
        divisions();
        limits();
        oldAndHere();
        CHECK.close();
    }

    private static void due(String call, long got, long want) {
        CHECK.due(call, got, want);
    }

    private static void due(String call, boolean got, boolean want) {
        CHECK.due(call, got, want);
    }

    private static void faulty(int what, String marked) {
        CHECK.faulty(what, marked);
    }

    // ---- promise 1

    private static void newObject() {
        CHECK.sentence("`NONE = -1`: None; refused.");
        due("NONE", NONE, -1);
        CHECK.sentence("No NOTES, no DOORS.");
        TuneDoor x = new TuneDoor();
        for (int what = 0; what < 8; what++) {
            due("has " + what, x.has(what), 0);
        }
        for (int kind = 0; kind < 3; kind++) {
            due("letter of kind " + kind, x.letter(kind, 0, 0), NONE);
        }
        due("door", x.door(0, 0), NONE);
        due("person", x.person(0, 0), NONE);
        for (int place = -2; place < 1; place++) {
            due("note " + place, x.note(0, 0, place), NONE);
        }
        due("round", x.round(0, 0), NONE);
        due("find", x.find(0, 0, 0), NONE);
        due("ear", x.ear(0, 0, 0), NONE);
        due("come", x.come(0), -2);
        due("slip", x.slip(0, 0, 0), -2);
        due("waste", x.waste(0, 1), NONE);
        due("listen to no notes", x.listen(0), -2);
        due("opened", x.opened(0, 1), NONE);
        newObjectAsked(x);
    }

    private static void newObjectAsked(TuneDoor x) {
        due("apart", x.apart(0), -10000);
        due("mend", x.mend(0), NONE);
        due("would", x.would(0), NONE);
        due("likely", x.likely(0, 1), -1);
        due("lost", x.lost(0, 1), -1);
        due("bears", x.bears(0), NONE);
        due("stranger", x.stranger(0, NONE), -1);
        due("stranger by no try", x.stranger(0, 0), -1);
        due("near", x.near(0), NONE);
        due("cost", x.cost(0, 1, 0, 0), NONE);
        due("the best window", x.cost(0, 1, 0, 1), NONE);
        due("knows", x.knows(0, 0, 1), NONE);
        due("sure", x.sure(0, 0), NONE);
        due("right", x.right(0, 0, 1), NONE);
        due("same", x.same(0, 1, 0), NONE);
        due("tells", x.tells(0, 1, 0), NONE);
        due("bird", x.bird(0, 0, 0, 1), NONE);
        due("nights", x.nights(1), NONE);
        due("octet", x.octet(0), NONE);
    }

    // ---- promise 2

    private static void feedGives() {
        CHECK.sentence("Twenty bytes come behind those on the tape, of each number the highest first: how many there are");
        TuneDoor x = new TuneDoor();
        Check.tape(x, "notes");
        due("behind five bytes", x.feed(0x20322020, 0x6c6f6e67, 0x20333b20, 0x20202020, 0x20202020), 25);
        due("they are read as one text", x.house(), 1);
        due("NOTES", x.has(0), 2);
        due("LENGTH", x.has(1), 3);
        due("all bits are bytes", x.feed(-1, 0, Integer.MIN_VALUE, Integer.MAX_VALUE, 1), 20);
    }

    private static void feedRefused() {
        CHECK.sentence("NONE, doing nothing, if there would be more than 1600");
        TuneDoor x = new TuneDoor();
        for (int i = 1; i <= 80; i++) {
            due("feed " + i, x.feed(0, 0, 0, 0, 0), 20 * i);
        }
        for (int there = 1600; there > 1580; there--) {
            due("end", x.end(there), true);
            due("feed behind " + there, x.feed(0, 0, 0, 0, 0), NONE);
            due("none more than " + there, x.end(there + 1), false);
        }
        due("end", x.end(1580), true);
        due("feed behind 1580", x.feed(0, 0, 0, 0, 0), 1600);
        TuneDoor y = new TuneDoor();
        Check.tape(y, " ".repeat(1584) + "notes 2 long 2 ;");
        due("a text of 1600 bytes, and more", y.feed(-1, -1, -1, -1, -1), NONE);
        due("it stays as it was", y.house(), 1);
    }

    // ---- promise 3

    private static void endCuts() {
        CHECK.sentence("The tape has its first n bytes alone: true");
        TuneDoor x = new TuneDoor();
        due("nothing of nothing", x.end(0), true);
        Check.tape(x, "notes 2 long 2;#");
        due("all of it", x.end(16), true);
        due("all but one", x.end(15), true);
        due("the rest has gone", x.end(16), false);
        due("more comes behind 15", x.feed(0x20202020, 0x20202020, 0x20202020, 0x20202020, 0x20202020), 35);
        due("the first bytes stay", x.house(), 1);
        Check.tape(x, "notes 2 long 2;");
        due("none of it", x.end(0), true);
        due("none is left", x.end(1), false);
        due("a text of nothing", x.house(), NONE);
    }

    private static void endRefused() {
        CHECK.sentence("false, doing nothing, if it has not so many, or n is below 0");
        TuneDoor x = new TuneDoor();
        due("one of nothing", x.end(1), false);
        Check.tape(x, "notes 2 long 2;");
        due("one more", x.end(16), false);
        due("very many", x.end(Integer.MAX_VALUE), false);
        due("below 0", x.end(-1), false);
        due("far below 0", x.end(Integer.MIN_VALUE), false);
        due("nothing was done", x.house(), 1);
    }

    // ---- promise 4

    private static void statementsCounted() {
        CHECK.sentence("how many STATEMENTS");
        CHECK.good(1, "notes 2 long 2;");
        CHECK.good(2, "notes 2 long 2;worth 1 1;");
        CHECK.good(5, SOME + "person p" + PERSON + "person q" + PERSON);
        // 1600 bytes hold no more: 15 for the first, 10 for each other one.
        CHECK.good(159, "notes 2 long 2;" + "worth 1 1;".repeat(158) + "     ");
    }

    private static void tapeGoes() {
        CHECK.sentence("The tape (it goes) is THE HOUSE");
        TuneDoor x = Check.told(HEAD);
        due("it goes", x.end(1), false);
        due("it goes with a FAULT", Check.house(x, "notes 2 lang"), NONE);
        due("it goes with a FAULT", x.end(1), false);
        due("and is nothing then", x.house(), NONE);
        due("at its length", x.fault(1), 0);
    }

    private static final String LIVED = "notes 6 long 3; tune a 0 0 0 keep 0; tune b 1 2 3 keep 9; place 2 when sum%6<5; place 1 when (sum-last)%6<5;"
        + "kept kept+1 when all; door d window 5 2; door e pair 9; person p door d tune a loses 30 errs 40; person q door d tune b loses 0 errs 0;"
        + "person r door e tune a loses 0 errs 0; worth 20 30;";

    /** A house in which all that may be otherwise is. */
    private static TuneDoor livedIn() {
        TuneDoor x = Check.told(LIVED);
        x.waste(0, 3);
        x.come(0);
        x.slip(1, 0, 5);
        x.waste(2, 4);
        x.come(2);
        x.nights(5);
        return x;
    }

    private static void allStaysWithFault() {
        CHECK.sentence("NONE with a FAULT (all stays");
        String other = "notes 2 long 2; tune x 1 1 keep 7; place 1 when all; note 1 when all; kept 1 when all; door y lip 3 1; worth 5 6;"
            + "person z door y tune x loses 1 errs 1;";
        String[] faults = {"#", "door x strict;", "person u door x tune x loses 0 errs 0;", "tune u 2 2 keep 0;", "kept 1 when all;".repeat(4)};
        for (int i = 0; i < faults.length; i++) {
            TuneDoor x = livedIn();
            String before = Scenes.state(x);
            int apart = x.apart(0);
            due("a house with FAULT " + (i + 1), Check.house(x, other + faults[i]), NONE);
            due("FAULT", x.fault(0), i + 1);
            due("all stays with FAULT " + (i + 1), Scenes.state(x).equals(before), true);
            due("apart stays", x.apart(0), apart);
        }
    }

    private static void withoutStatement() {
        CHECK.sentence("one without a STATEMENT has FAULT 1 at its length");
        faulty(1, "^");
        faulty(1, " ^");
        faulty(1, "\n^");
        faulty(1, " \n \n ^");
        faulty(1, " ".repeat(1600) + "^");
    }

    private static void allIsNewWithoutFault() {
        CHECK.sentence("Without one all COUNTS are 0, nobody was let in or kept out");
        TuneDoor x = livedIn();
        String lived = Scenes.state(x);
        String fresh = Scenes.state(Check.told(LIVED));
        due("there is something to forget", lived.equals(fresh), false);
        due("told again", Check.house(x, LIVED), 12);
        due("all is new", Scenes.state(x).equals(fresh), true);
        // Twice: what was told the time before last must not come again, either.
        x.nights(9);
        due("a smaller house", Check.house(x, "notes 2 long 2;"), 1);
        due("all of the old one has gone", Scenes.state(x).equals(Scenes.state(Check.told("notes 2 long 2;"))), true);
        TuneDoor y = livedIn();
        due("a house between", Check.house(y, "notes 2 long 2; kept 1 when all;"), 2);
        due("told again", Check.house(y, LIVED), 12);
        due("all is new", Scenes.state(y).equals(fresh), true);
        due("nothing is half heard", y.ear(1, 0, 1), NONE);
        TuneDoor z = livedIn();
        due("other kinds and persons in the same places", Check.house(z, SOME + "door e strict; person p door e tune a loses 0 errs 0;"), 5);
        due("no bits of old persons", z.door(0, 3), 0);
        due("no numbers of old kinds", z.door(1, 1), 0);
        due("nor once more", Check.house(z, SOME + "door e strict; person p door e tune a loses 0 errs 0;"), 5);
        due("no bits of old persons", z.door(0, 3), 0);
        due("no numbers of old kinds", z.door(0, 1) + z.door(0, 2) + z.door(1, 1) + z.door(1, 2), 0);
    }

    private static void longTexts() {
        CHECK.sentence("Without one all COUNTS are 0");
        // As long as a tape may be, and again and again: what was told before takes no room.
        TuneDoor x = new TuneDoor();
        for (int i = 1; i <= 4; i++) {
            String start = "notes 2 long 2;tune a 0 0 keep 0;kept " + i;
            String rest = " when all;";
            int ones = (1600 - start.length() - rest.length()) / 2;
            String text = start + "+1".repeat(ones) + rest;
            due("told", Check.house(x, text + " ".repeat(1600 - text.length())), 3);
            due("a sum of all", x.note(0, 1, -2), (ones + i) % 100);
        }
        // Rules of the houses ahead are asked no more.
        TuneDoor y = new TuneDoor();
        for (int i = 0; i < 3; i++) {
            due("told", Check.house(y, HEAD + "place 1 when all;".repeat(6)), 7);
        }
        due("without place", Check.house(y, HEAD + "tune a 0 0 keep 0;" + "note 1 when all;".repeat(6)), 8);
        due("PLACE 0", y.note(0, 1, NONE), 3);
    }

    /** A door that always opens to its one person, who loses a WHISTLE at every other DRAW or so. */
    private static final String LOSING = "notes 2 long 2; tune a 0 0 keep 0; note old when all; door d strict; person p door d tune a loses 50 errs 0;";

    /** Where the PERSON of LOSING is after so many NIGHTS. */
    private static int losingCount(Scenes.Draws draws, int nights) {
        int count = 0;
        for (int i = 0; i < nights; i++) {
            draws.of(1);
            count += draws.of(100) < 50 ? 2 : 1;
            draws.of(100);
        }
        return count;
    }

    private static void seedStays() {
        CHECK.sentence("THE SEED and REFUSALS stay");
        TuneDoor x = Check.told(LOSING);
        Scenes.Draws draws = new Scenes.Draws(1);
        x.nights(20);
        due("after 20 nights", x.person(0, 2), losingCount(draws, 20));
        due("told again", Check.house(x, LOSING), 5);
        x.nights(60);
        due("THE SEED goes on behind a new house", x.person(0, 2), losingCount(draws, 60));
        due("a FAULT", Check.house(x, LOSING + "#"), NONE);
        int before = x.person(0, 2);
        x.nights(60);
        due("and behind a FAULT", x.person(0, 2) - before, losingCount(draws, 60));
    }

    private static void refusalsStay() {
        CHECK.sentence("THE SEED and REFUSALS stay");
        TuneDoor x = new TuneDoor();
        x.end(1);
        x.house();
        x.come(0);
        x.nights(1);
        x.seed(-1);
        x.on();
        due("a house", Check.house(x, HEAD), 1);
        for (int what = 0; what < 6; what++) {
            due("status " + what, x.status(what), 1);
        }
    }

    // ---- promises 5 to 7

    private static void faultAsked() {
        CHECK.sentence("its FAULT (what 0; 0 without, and ahead of any), its place (1; NONE without). NONE for another what.");
        TuneDoor x = new TuneDoor();
        due("ahead of any", x.fault(0), 0);
        due("its place", x.fault(1), NONE);
        Check.house(x, "notes 2 long 2; tune a 0 0 keep 100;");
        due("with one", x.fault(0), 4);
        due("its place", x.fault(1), 32);
        due("another what", x.fault(2), NONE);
        due("another what", x.fault(-1), NONE);
        due("another what", x.fault(Integer.MIN_VALUE), NONE);
        Check.house(x, "notes 2 long 2;");
        due("the latest had none", x.fault(0), 0);
        due("its place", x.fault(1), NONE);
        Check.house(x, "#");
        due("the latest has one", x.fault(0), 1);
        due("its place", x.fault(1), 0);
    }

    private static void hasAsked() {
        CHECK.sentence("8, 9 worth. NONE for others.");
        TuneDoor x = Check.told(HEAD + "worth 12 34;");
        due("worth", x.has(8), 12);
        due("worth", x.has(9), 34);
        due("has(10)", x.has(10), NONE);
        due("has(-1)", x.has(-1), NONE);
        due("has(MAX)", x.has(Integer.MAX_VALUE), NONE);
    }

    private static void lettersAsked() {
        CHECK.sentence("97 .. 122; NONE if there is none such");
        TuneDoor x = Check.told(HEAD + "tune a 0 0 keep 0; tune azazaz 0 0 keep 0; tune zzzzzz 0 0 keep 0; door bcd strict; person ef door bcd tune a loses 0 errs 0;");
        due("one letter", x.letter(0, 0, 0), 97);
        due("no second one", x.letter(0, 0, 1), NONE);
        for (int k = 0; k < 6; k++) {
            due("letter " + k, x.letter(0, 1, k), k % 2 == 0 ? 97 : 122);
            due("letter " + k, x.letter(0, 2, k), 122);
        }
        due("no seventh one", x.letter(0, 1, 6), NONE);
        due("no letter ahead", x.letter(0, 1, -1), NONE);
        due("a door's last", x.letter(1, 0, 2), 'd');
        due("behind it", x.letter(1, 0, 3), NONE);
        due("a person's last", x.letter(2, 0, 1), 'f');
        due("behind it", x.letter(2, 0, 2), NONE);
        due("tune 3", x.letter(0, 3, 0), NONE);
        due("door 1", x.letter(1, 1, 0), NONE);
        due("person 1", x.letter(2, 1, 0), NONE);
        for (int kind = 0; kind < 3; kind++) {
            due("-1 of kind " + kind, x.letter(kind, -1, 0), NONE);
        }
        due("kind 3", x.letter(3, 0, 0), NONE);
        due("kind -1", x.letter(-1, 0, 0), NONE);
    }

    // ---- Terms I: words, numbers, blanks

    private static void wordsAndNumbers() {
        CHECK.sentence("WORDS (1 to 6 letters a .. z), NUMBERS (1 to 4 digits)");
        CHECK.good(2, HEAD + "tune a 0 0 keep 0;");
        CHECK.good(2, HEAD + "tune z 0 0 keep 0;");
        CHECK.good(2, HEAD + "tune abcdez 0 0 keep 0;");
        faulty(1, HEAD + "tune abcdef^a 0 0 keep 0;");
        for (String sign : "A Z ` { _ - . @ / :".split(" ")) {
            faulty(1, HEAD + "tune ^" + sign);
            faulty(1, HEAD + "tune a^" + sign);
        }
        CHECK.good(1, "notes 0002 long 0005;");
        CHECK.good(1, "notes 02 long 005;");
        faulty(1, "notes 0000^2 long 2;");
        faulty(1, "notes ^-2 long 2;");
        faulty(1, "notes 2^.0 long 2;");
    }

    private static void blanks() {
        CHECK.sentence("blanks (10, 32) between where one likes");
        for (int octet = 0; octet < 256; octet++) {
            char sign = (char) octet;
            boolean plain = sign >= 'a' && sign <= 'z' || sign >= '0' && sign <= '9';
            if (octet == 10 || octet == 32) {
                CHECK.good(1, sign + "notes" + sign + "2" + sign + sign + "long" + sign + "2" + sign + ";" + sign);
            } else if (!plain) {
                faulty(1, "notes^" + sign + "2 long 2;");
                faulty(1, "notes 2 long 2;^" + sign);
            }
        }
        String spread = SOME + "place ( sum + 1 ) * 2 % max ( 3 , 4 ) when not [ all and 1 < 2 ] or kept = 3 ; person p" + PERSON;
        CHECK.good(5, spread);
        CHECK.good(5, spread.replace(' ', '\n'));
        CHECK.good(5, spread.replace(" ", " \n \n"));
        CHECK.good(5, spread.replaceAll(" (?=[^a-z0-9])|(?<=[^a-z0-9]) ", ""));
    }

    private static void sideBySide() {
        CHECK.sentence("(WORDS and NUMBERS side by side need one)");
        faulty(1, "notes^2 long 2;");
        faulty(1, "notes 2^long 2;");
        faulty(1, "notes 2 long^2;");
        faulty(1, HEAD + "tune a^0 0 keep 0;");
        faulty(1, HEAD + "tune a 0 0^keep 0;");
        faulty(1, HEAD + "place sum^1 when all;");
        faulty(1, HEAD + "place 1^when all;");
        faulty(1, "^notesx 2 long 2;");
        CHECK.good(2, HEAD + "place(1)when[all];");
        CHECK.good(2, HEAD + "place sum%2*min(1,2)when 1<2 or 3>2;");
        faulty(1, HEAD + "place 1 when 1<2^or all;");
    }

    // ---- Terms I: the numbers of each STATEMENT

    /** A NUMBER may be least .. most there; one below and one above is FAULT 4 at its first byte. */
    private static void range(String before, int least, int most, String behind) {
        for (int value : new int[] {least, least + 1, most - 1, most}) {
            if (value >= least && value <= most) {
                TuneDoor x = new TuneDoor();
                due("house of " + before + value + behind, Check.house(x, before + value + behind) > 0, true);
            }
        }
        for (int value : new int[] {least - 1, most + 1, 9999}) {
            if (value >= 0) {
                faulty(4, before + "^" + value + behind);
                faulty(4, before + " ^" + value + behind);
            }
        }
    }

    private static void notesAndLength() {
        CHECK.sentence("NOTES 2 .. 6, LENGTH 2 .. 5");
        range("notes ", 2, 6, " long 2;");
        range("notes 2 long ", 2, 5, ";");
        faulty(4, "notes ^0 long 2;");
        faulty(4, "notes 2 long ^0;");
        due("NOTES 6", Check.told("notes 6 long 5;").has(0), 6);
        due("LENGTH 5", Check.told("notes 6 long 5;").has(1), 5);
    }

    private static void notesFirstAndAlone() {
        CHECK.sentence("the first STATEMENT, and it alone");
        for (String first : "tune place note kept door person worth".split(" ")) {
            faulty(1, "^" + first + " a");
        }
        faulty(1, "notes 2 long 2; ^notes 2 long 2;");
        faulty(1, SOME + "^notes 3 long 2;");
    }

    private static void tuneNumbers() {
        CHECK.sentence("(as many notes as LENGTH, each 0 .. NOTES less 1; 0 .. 99; 3 TUNES)");
        for (int notes = 2; notes <= 6; notes++) {
            range("notes " + notes + " long 2; tune a ", 0, notes - 1, " 0 keep 0;");
            range("notes " + notes + " long 2; tune a 0 ", 0, notes - 1, " keep 0;");
        }
        for (int length = 2; length <= 5; length++) {
            String start = "notes 2 long " + length + "; tune a" + " 1".repeat(length - 1);
            faulty(1, start + " ^keep 0;");
            CHECK.good(2, start + " 1 keep 0;");
            faulty(1, start + " 1 ^1 keep 0;");
        }
        range(HEAD + "tune a 0 0 keep ", 0, 99, ";");
        String three = HEAD + "tune a 0 0 keep 0; tune b 0 0 keep 0; tune c 0 0 keep 0;";
        due("3 TUNES", Check.told(three).has(2), 3);
        faulty(5, three + "^tune e 0 0 keep 0;");
    }

    private static void rulesCounted() {
        CHECK.sentence("place SUM when TEST (6), note SUM when TEST (6), kept SUM when TEST (4)");
        String[] kinds = {"place", "note", "kept"};
        int[] most = {6, 6, 4};
        for (int i = 0; i < 3; i++) {
            String rule = kinds[i] + " 1 when all;";
            due("as many " + kinds[i], Check.told(HEAD + rule.repeat(most[i])).has(5 + i), most[i]);
            faulty(5, HEAD + rule.repeat(most[i]) + "^" + rule);
        }
        due("all of all", Check.told(HEAD + "place 1 when all; note 1 when all;".repeat(6) + "kept 1 when all;".repeat(4)).has(7), 4);
        eachRuleIsAsked();
    }

    private static void eachRuleIsAsked() {
        StringBuilder rules = new StringBuilder();
        for (int i = 0; i < 6; i++) {
            rules.append("place ").append(i + 7).append(" when kept=").append(i).append(";note ").append(i + 1).append(" when kept=").append(i).append(";");
            rules.append(i < 4 ? "kept " + (20 + i) + " when kept=" + i + ";" : "");
        }
        for (int i = 0; i < 6; i++) {
            TuneDoor x = Check.told("notes 6 long 5; tune a 0 0 0 0 0 keep " + i + "; " + rules);
            for (int place = 0; place < 5; place++) {
                due("note " + place + " by rule " + i, x.note(0, 1, place), place == (i + 7) % 5 ? (i + 1) % 6 : 0);
            }
            due("KEPT by rule " + i, x.note(0, 1, -2), i < 4 ? 20 + i : i);
        }
    }

    private static void doorNumbers() {
        CHECK.sentence("door NAME KIND (4 DOORS), KIND being strict, or window N N (0 .. 40, 0 .. 9), or pair N (1 .. 40), "
            + "or lip N N (0 .. 40, 0 .. 4), or reset N N (0 .. 40, 1 .. 9)");
        range(HEAD + "door e window ", 0, 40, " 0;");
        range(HEAD + "door e window 0 ", 0, 9, ";");
        range(HEAD + "door e pair ", 1, 40, ";");
        range(HEAD + "door e lip ", 0, 40, " 0;");
        range(HEAD + "door e lip 0 ", 0, 4, ";");
        range(HEAD + "door e reset ", 0, 40, " 1;");
        range(HEAD + "door e reset 0 ", 1, 9, ";");
        faulty(1, HEAD + "door e strict ^0;");
        faulty(1, HEAD + "door e pair 1 ^1;");
        for (String two : "window lip reset".split(" ")) {
            faulty(1, HEAD + "door e " + two + " 1^;");
            faulty(1, HEAD + "door e " + two + " 1 1 ^1;");
        }
        for (String word : OWN_WORDS) {
            if (!word.matches("strict|window|pair|lip|reset")) {
                faulty(1, HEAD + "door e ^" + word + " 1 1;");
            }
        }
        String four = HEAD + "door d strict; door e window 0 0; door f pair 1; door g lip 0 0;";
        due("4 DOORS", Check.told(four).has(3), 4);
        faulty(5, four + "^door h strict;");
    }

    private static void personNumbers() {
        CHECK.sentence("(a DOOR, a TUNE, of 100 both, 0 .. 100; 4 PERSONS)");
        range(SOME + "person p door d tune a loses ", 0, 100, " errs 0;");
        range(SOME + "person p door d tune a loses 0 errs ", 0, 100, ";");
        String four = SOME + "person p" + PERSON + "person q" + PERSON + "person r" + PERSON + "person s" + PERSON;
        due("4 PERSONS", Check.told(four).has(4), 4);
        faulty(5, four + "^person t" + PERSON);
    }

    private static void worthNumbers() {
        CHECK.sentence("(0 .. 9999 both; the last one counts; 1 and 1 without)");
        TuneDoor x = Check.told(HEAD + "worth 0 9999;");
        due("the least", x.has(8), 0);
        due("the greatest", x.has(9), 9999);
        x = Check.told(HEAD + "worth 9999 0;");
        due("the greatest", x.has(8), 9999);
        due("the least", x.has(9), 0);
        faulty(1, HEAD + "worth 1000^0 0;");
        faulty(1, HEAD + "worth 0 1000^0;");
        faulty(1, HEAD + "worth 1^;");
        x = Check.told(HEAD + "worth 5 6; worth 7 8; tune a 0 0 keep 0; worth 9 10;");
        due("the last one counts", x.has(8), 9);
        due("the last one counts", x.has(9), 10);
        for (int i = 0; i < 3; i++) {
            due("told without", Check.house(x, HEAD), 1);
            due("1 without", x.has(8), 1);
            due("and 1", x.has(9), 1);
        }
    }

    // ---- Terms I: names

    private static void ownWords() {
        CHECK.sentence("OWN WORDS, which no NAME is: notes, long, tune, keep, place, note, kept, door, strict, window, pair, lip, reset, person, "
            + "loses, errs, worth, when, or, and, not, all, sum, first, last, old, here, min, max.");
        for (String word : OWN_WORDS) {
            faulty(1, HEAD + "tune ^" + word + " 0 0 keep 0;");
            faulty(1, HEAD + "door ^" + word + " strict;");
            faulty(1, SOME + "person ^" + word + PERSON);
            faulty(1, SOME + "person p door ^" + word + " tune a loses 0 errs 0;");
            faulty(1, SOME + "person p door d tune ^" + word + " loses 0 errs 0;");
            if (word.length() < 6) {
                CHECK.good(2, HEAD + "tune " + word + "x 0 0 keep 0;");
            }
            CHECK.good(2, HEAD + "tune x" + word.substring(1) + " 0 0 keep 0;");
        }
    }

    private static void namesUnlike() {
        CHECK.sentence("2 a NAME to be given that is there already, at its first byte");
        String all = SOME + "tune b 0 0 keep 0; door e strict; person p" + PERSON + "person q" + PERSON;
        for (String name : "a b d e p q".split(" ")) {
            faulty(2, all + "tune ^" + name + " 0 0 keep 0;");
            faulty(2, all + "door ^" + name + " strict;");
            faulty(2, all + "person ^" + name + PERSON);
        }
        CHECK.good(7, all);
        CHECK.good(8, all + "tune ab 0 0 keep 0;");
        // A name of the house ahead, or of one with a FAULT, is free again.
        TuneDoor x = Check.told(all);
        due("told again", Check.house(x, all), 7);
        due("with a FAULT", Check.house(x, all + "door x strict; #"), NONE);
        due("told again", Check.house(x, all + "tune x 0 0 keep 0;"), 8);
        due("with a FAULT in its names", Check.house(x, all + "tune y 9"), NONE);
        due("told again", Check.house(x, all + "door y strict;"), 8);
    }

    private static void namesToldAhead() {
        CHECK.sentence("3 a NAME that is none of what is asked, at its first byte");
        String all = SOME + "tune b 0 0 keep 0; door e strict; person q" + PERSON;
        for (String name : "a b p q x".split(" ")) {
            faulty(3, all + "person p door ^" + name + " tune a loses 0 errs 0;");
        }
        for (String name : "d e p q x".split(" ")) {
            faulty(3, all + "person p door d tune ^" + name + " loses 0 errs 0;");
        }
        CHECK.sentence("each told ahead of where it is asked");
        faulty(3, HEAD + "tune a 0 0 keep 0; person p door ^d tune a loses 0 errs 0; door d strict;");
        faulty(3, HEAD + "door d strict; person p door d tune ^a loses 0 errs 0; tune a 0 0 keep 0;");
        // Of the house ahead, it is not told.
        TuneDoor x = Check.told(all);
        due("a door of the house ahead", Check.house(x, HEAD + "tune a 0 0 keep 0; person p" + PERSON), NONE);
        due("is none", x.fault(0), 3);
        due("once more", Check.house(x, HEAD + "tune a 0 0 keep 0; person p" + PERSON), NONE);
        due("is none", x.fault(0), 3);
        due("a tune of the house ahead", Check.house(x, HEAD + "door d strict; person p" + PERSON), NONE);
        due("is none", x.fault(0), 3);
    }

    // ---- Terms I: FAULTS

    private static void firstAlongTheText() {
        CHECK.sentence("FAULTS, the first along the text");
        faulty(4, "notes ^9 long 9;");
        faulty(4, "notes ^7x");
        faulty(4, "notes 2 long ^9#");
        faulty(2, SOME + "tune ^a 9 9 keep 100;");
        faulty(4, SOME + "tune b ^9 9 keep 100; door d strict;");
        faulty(3, SOME + "person p door ^x tune x loses 101 errs 101;");
        faulty(5, HEAD + "kept 1 when all;".repeat(4) + "^kept # when all;");
        faulty(5, HEAD + "kept 1 when all;".repeat(4) + "^kept");
        faulty(1, HEAD + "tune a 0 0 ^; tune a 9");
    }

    private static void noHouseGoesOn() {
        CHECK.sentence("1 the first byte with which no HOUSE goes on (WORDS, NUMBERS whole, at their first byte");
        faulty(1, "^note 2 long 2;");
        faulty(1, "notes 2 ^longs 2;");
        faulty(1, HEAD + "^tunes a 0 0 keep 0;");
        faulty(1, HEAD + "tune a 0 0 ^kept 0;");
        faulty(1, HEAD + "^12 a;");
        faulty(1, HEAD + "door d ^lips 1 1;");
        faulty(1, HEAD + "place ^summ when all;");
        faulty(1, HEAD + "place sum ^then all;");
        faulty(1, HEAD + "place 1 when ^any;");
        faulty(1, HEAD + "place ^not when all;");
        faulty(1, HEAD + "place ^all when all;");
        faulty(1, HEAD + "place 1 when ^< 1;");
        faulty(1, HEAD + "place 1 when all ^all;");
        faulty(1, HEAD + "place 1 when all ^= 1;");
        faulty(1, HEAD + "place 1 when [1 < 2^) ;");
        faulty(1, HEAD + "place (1^] when all;");
        faulty(1, HEAD + "place min (1 ^; 2) when all;");
        faulty(1, HEAD + "place (^) when all;");
        faulty(1, HEAD + "place 1 when [^] ;");
    }

    private static void endsTooSoon() {
        CHECK.sentence("at the text's length, if it ends too soon");
        String whole = "notes 2 long 2 ; tune a 0 1 keep 3 ; place ( sum + 1 ) * min ( first , 2 ) when not [ all or 1 < 2 ] and kept = 1 ; "
            + "note old / 2 - here % 3 when last > 1 ; kept 5 when all ; door d strict ; door e window 1 2 ; door f pair 3 ; door g lip 1 1 ; "
            + "person p door d tune a loses 1 errs 2 ; worth 3 4 ;";
        String text = "";
        for (String token : whole.split(" ")) {
            // Only ahead of "and" a STATEMENT might end.
            if (!token.equals(";") && !token.equals("and")) {
                faulty(1, text + "^;");
            }
            text += token;
            if (token.equals(";")) {
                due("house of " + text, Check.house(new TuneDoor(), text) > 0, true);
            } else {
                faulty(1, text + "^");
                faulty(1, text + " \n ^");
                faulty(1, text + " ^#");
            }
            text += " ";
        }
    }

    private static void seventhLetter() {
        CHECK.sentence("a 7th letter, a 5th digit at itself, whatever may stand there");
        String[] before = {"", "notes ", "notes 2 ", "notes 2 long ", "notes 2 long 2", "notes 2 long 2 ", HEAD, HEAD + "tune ", HEAD + "tune a ",
            HEAD + "tune a 0 0 ", HEAD + "tune a 0 0 keep ", HEAD + "door ", HEAD + "door d ", HEAD + "door d pair ", HEAD + "door d pair 1 ",
            SOME + "person ", SOME + "person p door ", SOME + "person p door d tune ", SOME + "person p door d tune a loses ", HEAD + "worth ",
            HEAD + "place ", HEAD + "place (", HEAD + "place 1 ", HEAD + "place 1 when ", HEAD + "place 1 when [", HEAD + "place 1 when 1=",
            HEAD + "place 1 when all "};
        for (String start : before) {
            String glue = start.endsWith("2") ? "\n" : "";
            faulty(1, start + glue + "abcdef^g");
            faulty(1, start + glue + "abcdef^ghijkl 1;");
            faulty(1, start + glue + "0000^0");
            faulty(1, start + glue + "1234^567890 a;");
        }
    }

    private static void oneTooMany() {
        CHECK.sentence("5 one too many of a kind of STATEMENT, at its first byte");
        String full = HEAD + "tune a 0 0 keep 0; tune b 0 0 keep 0; tune c 0 0 keep 0; door d strict; door e strict; door f strict; door g strict;"
            + "person p" + PERSON + "person q" + PERSON + "person r" + PERSON + "person s" + PERSON
            + "place 1 when all; note 1 when all;".repeat(6) + "kept 1 when all;".repeat(4);
        CHECK.good(28, full);
        for (String kind : "tune door person place note kept".split(" ")) {
            faulty(5, full + "^" + kind + " a");
            faulty(5, full + " \n^" + kind);
        }
        CHECK.good(29, full + "worth 1 1;");
        // What a text with a FAULT had counts no more.
        TuneDoor x = new TuneDoor();
        due("one too many", Check.house(x, full + "tune"), NONE);
        due("as many", Check.house(x, full), 28);
        due("as many again", Check.house(x, full), 28);
    }

    private static void ninthBracket() {
        CHECK.sentence("a 9th ( [ that is open at once, at itself");
        String test = HEAD + "place 1 when ";
        CHECK.good(2, HEAD + "place " + "(".repeat(8) + "1" + ")".repeat(8) + " when all;");
        faulty(5, HEAD + "place " + "(".repeat(8) + "^(1");
        CHECK.good(2, test + "[".repeat(8) + "all" + "]".repeat(8) + ";");
        faulty(5, test + "[".repeat(8) + "^[all");
        CHECK.good(2, test + "[[[[((((1))))=1]]]];");
        faulty(5, test + "[[[[((((^(1");
        CHECK.good(2, HEAD + "place " + "min(".repeat(8) + "1" + ",1)".repeat(8) + " when all;");
        faulty(5, HEAD + "place " + "min(".repeat(8) + "max^(1");
        faulty(5, HEAD + "place " + "(".repeat(8) + "min^(1");
        CHECK.good(2, HEAD + "place ((((((((1)+(1))))))))+((((((((1)))))))) when [[[[[[[[all] and all]]]]]]] and [[[[[[[[all]]]]]]]];");
        faulty(5, HEAD + "place ((((((((1)+(1))+((^(1");
        // Where none may stand, a 9th one is a byte with which no HOUSE goes on.
        faulty(1, HEAD + "place " + "(".repeat(8) + "^[");
        faulty(1, HEAD + "place " + "(".repeat(8) + "1^(");
        faulty(1, HEAD + "place " + "(".repeat(8) + "1 ^[");
        // All eight count, with all that waits for them.
        due("a deep sum", Check.told(HEAD + "tune a 0 0 keep 0; kept " + "1+2*(".repeat(8) + "1" + ")".repeat(8) + " when all;").note(0, 1, -2), 11);
        due("a deep test", holds("not all or all and [".repeat(4) + "1+1*min(9,".repeat(4) + "1" + ")".repeat(4) + "=5" + "]".repeat(4)), true);
        due("a deep test", holds("not all or all and [".repeat(4) + "1+1*min(9,".repeat(4) + "1" + ")".repeat(4) + "=4" + "]".repeat(4)), false);
        // What stayed open in a text with a FAULT is not open in the next one.
        TuneDoor x = new TuneDoor();
        due("eight stay open", Check.house(x, HEAD + "place " + "(".repeat(8)), NONE);
        due("eight anew", Check.house(x, HEAD + "place " + "(".repeat(8) + "1" + ")".repeat(8) + " when all;"), 2);
    }

    // ---- Terms I: sums

    private static boolean holds(String test) {
        return Check.told("notes 4 long 3; tune a 3 1 2 keep 50; kept 1 when " + test + "; kept 0 when all;").note(0, 1, -2) == 1;
    }

    private static void divisions() {
        CHECK.sentence("/ gives the greatest whole number not above, % what then lacks (by 0 both give 0)");
        String[] hold = {"7/0=0", "0/0=0", "(0-7)/0=0", "7%0=0", "0%0=0", "(0-7)%0=0", "7/(1-1)=0", "7%(1-1)=0", "1/0+1=1", "5%0*3=0",
            "6/3=2", "7/3=2", "8/3=2", "(0-6)/3=0-2", "(0-7)/3=0-3", "(0-8)/3=0-3", "7/(0-3)=0-3", "(0-7)/(0-3)=2", "0/5=0", "(0-1)/9999=0-1",
            "1/9999=0", "6%3=0", "7%3=1", "(0-6)%3=0", "(0-7)%3=2", "7%(0-3)=0-2", "(0-7)%(0-3)=0-1", "6%(0-3)=0", "(0-1)%9999=9998"};
        for (String test : hold) {
            due(test, holds(test), true);
        }
    }

    private static void limits() {
        CHECK.sentence("each sum, difference, product above 10 to the 6 is that, below -10 to the 6 likewise");
        // 1000*1000 is 10 to the 6 itself; what is unlike it must not be held to it, what is above it must.
        String[] hold = {"9999*100+100=1000*1000", "9999*100+101=1000*1000", "9999*100+99<1000*1000", "1000*1000+1=1000*1000",
            "1000*1000+1000*1000=1000*1000", "1000*1000-1<1000*1000", "1000*1000-1>9999*100+98", "1000*1001=1000*1000", "999*1001<1000*1000",
            "999*1001=9999*100+99", "1000*1000-(0-1)=1000*1000", "1000*1001-1=9999*100+99", "9999*9999*9999=1000*1000",
            "1000*1000*1000/1000=1000", "1000*1000*0=0", "(0-1000)*(0-1001)=1000*1000",
            "0-9999*100-100=(0-1000)*1000", "0-9999*100-101=(0-1000)*1000", "0-9999*100-99>(0-1000)*1000", "(0-1000)*1000-1=(0-1000)*1000",
            "(0-1000)*1000+(0-1)=(0-1000)*1000", "(0-1000)*1001=(0-1000)*1000", "(0-999)*1001>(0-1000)*1000", "(0-999)*1001=1-1000*1000",
            "(0-1000)*1001+1=1-1000*1000", "(0-1000)*1000-1000*1000=(0-1000)*1000", "1000*(0-9999)=(0-1000)*1000", "1000*1000%7=1",
            "1000*1000/7=9999*14+2871", "1000*1000/(0-1)=(0-1000)*1000"};
        for (String test : hold) {
            due(test, holds(test), true);
        }
        due("KEPT of 10 to the 6 and 1", Check.told(HEAD + "tune a 0 0 keep 9; kept 9999*100+101 when all;").note(0, 1, -2), 0);
        due("KEPT of one less", Check.told(HEAD + "tune a 0 0 keep 9; kept 9999*100+99 when all;").note(0, 1, -2), 99);
    }

    private static void oldAndHere() {
        CHECK.sentence("old, here, of note alone, the note in the PLACE that was chosen, and that PLACE, else 0");
        String start = "notes 6 long 3; tune a 4 5 3 keep 0; ";
        TuneDoor x = Check.told(start + "place 1 when old=0 and here=0; place 2 when all; note old*2+here when old=5 and here=1; note 0 when all;"
            + "kept 10+old+here when old=0 and here=0; kept 99 when all;");
        due("0 for place, 5 and 1 for note", x.note(0, 1, 1), 11 % 6);
        due("0 for kept", x.note(0, 1, -2), 10);
        due("0 for the next place", x.note(0, 2, 0) == 4 && x.note(0, 2, 2) == 3, true);
        due("in the sum of place", Check.told(start + "place old+here+1 when all; note 0 when all;").note(0, 1, 1), 0);
        // The WHISTLE ahead left nothing, either.
        due("in the place of WHISTLE 2", Check.told(start + "place old+here+1 when all;").note(0, 2, 1), 1);
    }
}
