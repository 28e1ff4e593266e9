/** Each promise by hand: ordinary inputs, the edges that the document names, wrong inputs. */
public final class PromisesTest {
    private static final int NONE = TuneDoor.NONE;
    private static final Check CHECK = new Check();

    /** Its tune goes 00 10 20 00 10 ..: without rules the first note becomes one more. */
    private static final String SMALL = "notes 3 long 2; tune a 0 0 keep 5; ";
    /** Its tune goes 000 100 110 111 211 221 222 022 002 000: nine unlike ones. */
    private static final String NINE = "notes 3 long 3; tune a 0 0 0 keep 0; place kept when all; kept (kept+1)%3 when all; ";

    public static void main(String[] args) {
        newObject();
        feedAndEnd();
        houses();
        syntaxFaults();
        nameAndNumberFaults();
        tooMany();
        hasAndNames();
        doorsAndPersons();
        notes();
        sums();
        tests();
        rounds();
        finding();
        strictDoor();
        windowDoor();
        pairDoor();
        lipDoor();
        resetDoor();
        twoEars();
        comingAndSlipping();
        wasting();
        listening();
        apartAndMend();
        wouldBe();
        likely();
        likelyAtTheEnd();
        bearing();
        strangers();
        nearness();
        costs();
        formsHeard();
        sames();
        telling();
        birds();
        nightsAndSeed();
        images();
        statuses();
        CHECK.close();
    }

    private static void due(String call, long got, long want) {
        CHECK.due(call, got, want);
    }

    private static void due(String call, boolean got, boolean want) {
        CHECK.due(call, got, want);
    }

    private static void faulty(int what, String marked) {
        CHECK.faulty(what, marked);
    }

    private static void newObject() {
        TuneDoor x = new TuneDoor();
        due("new NOTES", x.has(0), 0);
        due("new DOORS", x.has(3), 0);
        due("new worth", x.has(8), 1);
        due("new worth", x.has(9), 1);
        due("new fault", x.fault(0), 0);
        due("new image", x.image(), 1);
        due("new octet", x.octet(0), 33);
        for (int what = 0; what < 6; what++) {
            due("new status " + what, x.status(what), 0);
        }
    }

    private static void feedAndEnd() {
        TuneDoor x = new TuneDoor();
        due("end(0)", x.end(0), true);
        due("end(1)", x.end(1), false);
        due("end(-1)", x.end(-1), false);
        for (int i = 1; i <= 80; i++) {
            due("feed " + i, x.feed(-1, 0, 1, Integer.MIN_VALUE, Integer.MAX_VALUE), 20 * i);
        }
        due("feed beyond", x.feed(0, 0, 0, 0, 0), NONE);
        due("end(1601)", x.end(1601), false);
        due("end(1600)", x.end(1600), true);
        due("end(1581)", x.end(1581), true);
        due("feed to 1601", x.feed(0, 0, 0, 0, 0), NONE);
        due("end(1580)", x.end(1580), true);
        due("feed to 1600", x.feed(0, 0, 0, 0, 0), 1600);
        due("status(0)", x.status(0), 5);
        due("a tape of other bytes", x.house(), NONE);
        due("its place", x.fault(1), 0);
        due("the tape goes", x.feed(0, 0, 0, 0, 0), 20);
        TuneDoor y = new TuneDoor();
        y.feed(0x6e6f7465, 0x73203220, 0x6c6f6e67, 0x20333b20, 0x20202020);
        due("highest byte first", y.house(), 1);
        due("NOTES", y.has(0), 2);
        due("LENGTH", y.has(1), 3);
    }

    private static void houses() {
        TuneDoor x = new TuneDoor();
        due("statements", Check.house(x, SMALL + "door d window 4 0; person p door d tune a loses 0 errs 0;"), 4);
        due("no fault", x.fault(0), 0);
        due("no place", x.fault(1), NONE);
        x.waste(0, 2);
        due("come", x.come(0), 0);
        due("seed", x.seed(77), true);
        due("a faulty house", Check.house(x, "notes 2 long 2; tune"), NONE);
        due("fault", x.fault(0), 1);
        due("fault place", x.fault(1), 20);
        due("fault(2)", x.fault(2), NONE);
        due("fault(-1)", x.fault(-1), NONE);
        due("all stays", x.person(0, 2), 3);
        due("all stays", x.opened(0, 1), 1);
        due("all stays", x.has(0), 3);
        due("all stays", x.note(0, 1, 0), 1);
        due("the tape goes with a fault", x.feed(0, 0, 0, 0, 0), 20);
        due("end", x.end(0), true);
        due("image", x.image(), 8);
        due("told again", Check.house(x, SMALL + "door d window 4 0; person p door d tune a loses 0 errs 0;"), 4);
        due("no fault again", x.fault(0), 0);
        due("COUNT is 0", x.person(0, 2), 0);
        due("let in is 0", x.person(0, 5), 0);
        due("EAR is 0", x.ear(0, 0, 0), 0);
        due("opened is 0", x.opened(0, 1), 0);
        due("opened by none", x.opened(0, 0), NONE);
        due("refusals stay", x.status(1), 1);
        due("the image stays", x.octet(1), 3);
        due("notes alone", Check.house(x, "\n notes  2\nlong 5 ; "), 1);
        due("no tunes", x.has(2), 0);
        due("no doors", x.door(0, 0), NONE);
        due("a text of 1600 bytes", Check.house(x, "notes 2 long 2;" + "worth 1 2;".repeat(158) + "     "), 159);
        due("1600 signs", Check.house(x, ";".repeat(1600)), NONE);
        due("their fault", x.fault(1), 0);
        due("tight and leading 0", Check.house(x, "notes 0003 long 02;note(old)+1 when[all]or all;"), 2);
    }

    private static void syntaxFaults() {
        faulty(1, "^");
        faulty(1, "  \n ^");
        faulty(1, "^;");
        faulty(1, "^tune a 0 0 keep 0;");
        faulty(1, "^not");
        faulty(1, "notes^");
        faulty(1, "notes^2 long 2;");
        faulty(1, "notes 2^long 2;");
        faulty(1, "notes 2 long 2^");
        faulty(1, "notes 2 long 2  ^");
        faulty(1, "notes 2 long 2^,");
        faulty(1, "notes 2 ^lang 2;");
        faulty(1, "notes 2 long 2; ^;");
        faulty(1, "notes 2 long 2; ^notes 2 long 2;");
        faulty(1, "notes 2 long 2; ^x");
        faulty(1, "notes 2 long 2; ^9");
        faulty(1, "notes 2 long 2; ^#");
        faulty(1, "notes 2 long 2; ^Tune a 0 0 keep 0;");
        faulty(1, "notes 2 long 2;^\ttune a 0 0 keep 0;");
        faulty(1, "notes 2 long 2; ^\u00e9");
        faulty(1, "notes 2 long 2; tune abcdef^g 0 0 keep 0;");
        faulty(1, "notes 2 long 2; abcdef^gh");
        faulty(1, "notes abcdef^g");
        faulty(1, "notes 1234^5 long 2;");
        faulty(1, "notes 2 long 2 1234^5");
        faulty(1, "notes 2^abcdefg");
        faulty(1, "notes 2 long 2; tune abcdef^1 0 0 keep 0;");
        faulty(1, "notes 2 long 2; tune ^keep 0 0 keep 0;");
        faulty(1, "notes 2 long 2; tune ^1 0 0 keep 0;");
        faulty(1, "notes 2 long 2; tune a 0 ^keep 0;");
        faulty(1, "notes 2 long 2; tune a 0 0 ^0 keep 0;");
        faulty(1, "notes 2 long 2; tune a 0 0 keep 0 ^tune");
        faulty(1, "notes 2 long 2; door d ^;");
        faulty(1, "notes 2 long 2; door d ^open;");
        faulty(1, "notes 2 long 2; door d ^person;");
        faulty(1, "notes 2 long 2; door d strict ^1;");
        faulty(1, "notes 2 long 2; door d pair 1 ^1;");
        faulty(1, "notes 2 long 2; door d lip 1^;");
        faulty(1, "notes 2 long 2; worth 1^;");
        faulty(1, "notes 2 long 2; tune a 0 0 keep 0; door d strict; person p ^tune a door d loses 0 errs 0;");
        faulty(1, "notes 2 long 2; tune a 0 0 keep 0; door d strict; person p door d tune a loses 0^;");
        faulty(1, "notes 2 long 2; place ^when all;");
        faulty(1, "notes 2 long 2; place 1 ^all;");
        faulty(1, "notes 2 long 2; place ^-1 when all;");
        faulty(1, "notes 2 long 2; place 1+^+1 when all;");
        faulty(1, "notes 2 long 2; place (1 ^when all;");
        faulty(1, "notes 2 long 2; place 1^) when all;");
        faulty(1, "notes 2 long 2; place min^1 when all;");
        faulty(1, "notes 2 long 2; place min ^sum when all;");
        faulty(1, "notes 2 long 2; place min(1^) when all;");
        faulty(1, "notes 2 long 2; place max(1,2^,3) when all;");
        faulty(1, "notes 2 long 2; place ^[1] when all;");
        faulty(1, "notes 2 long 2; place ^x when all;");
        faulty(1, "notes 2 long 2; place 1 when 1^;");
        faulty(1, "notes 2 long 2; place 1 when 1=^=1;");
        faulty(1, "notes 2 long 2; place 1 when 1=1^=1;");
        faulty(1, "notes 2 long 2; place 1 when [all^;");
        faulty(1, "notes 2 long 2; place 1 when [all^);");
        faulty(1, "notes 2 long 2; place 1 when (^all);");
        faulty(1, "notes 2 long 2; place 1 when all and^;");
        faulty(1, "notes 2 long 2; place 1 when all or ^or all;");
        faulty(1, "notes 2 long 2; place 1 when not^;");
    }

    private static void nameAndNumberFaults() {
        String start = "notes 3 long 2; tune a 0 0 keep 0; door d strict; ";
        faulty(2, start + "tune ^a 0 0 keep 0;");
        faulty(2, start + "tune ^d 0 0 keep 0;");
        faulty(2, start + "door ^a strict;");
        faulty(2, start + "door ^d strict;");
        faulty(2, start + "person ^d door d tune a loses 0 errs 0;");
        faulty(2, start + "person p door d tune a loses 0 errs 0; person ^p door d tune a loses 0 errs 0;");
        faulty(2, start + "person p door d tune a loses 0 errs 0; door ^p strict;");
        faulty(3, start + "person p door ^x tune a loses 0 errs 0;");
        faulty(3, start + "person p door ^a tune a loses 0 errs 0;");
        faulty(3, start + "person p door ^p tune a loses 0 errs 0;");
        faulty(3, start + "person p door d tune ^d loses 0 errs 0;");
        faulty(3, start + "person p door d tune ^x loses 0 errs 0; tune x 0 0 keep 0;");
        faulty(1, start + "person p door ^sum tune a loses 0 errs 0;");
        faulty(4, "notes ^1 long 2;");
        faulty(4, "notes ^7 long 2;");
        faulty(4, "notes ^7long");
        faulty(4, "notes 2 long ^1;");
        faulty(4, "notes 2 long ^6;");
        faulty(4, start + "tune b 0 ^3 keep 0;");
        faulty(4, start + "tune b 0 0 keep ^100;");
        faulty(4, start + "door e window ^41 0;");
        faulty(4, start + "door e window 40 ^10;");
        faulty(4, start + "door e pair ^0;");
        faulty(4, start + "door e pair ^41;");
        faulty(4, start + "door e lip ^41 0;");
        faulty(4, start + "door e lip 0 ^5;");
        faulty(4, start + "door e reset ^41 1;");
        faulty(4, start + "door e reset 0 ^0;");
        faulty(4, start + "door e reset 0 ^10;");
        faulty(4, start + "person p door d tune a loses ^101 errs 0;");
        faulty(4, start + "person p door d tune a loses 100 errs ^101;");
        TuneDoor x = Check.told("notes 6 long 5; tune a 5 5 5 5 5 keep 99; door b window 40 9; door c pair 40; door d lip 40 4; "
            + "door e reset 40 9; person p door e tune a loses 100 errs 100; worth 9999 9999;");
        due("the greatest numbers", x.fault(0), 0);
        x = Check.told("notes 2 long 2; tune a 0 0 keep 0; door b window 0 0; door c pair 1; door d lip 0 0; "
            + "door e reset 0 1; person p door e tune a loses 0 errs 0; worth 0 0;");
        due("the least numbers", x.fault(0), 0);
    }

    private static void tooMany() {
        String start = "notes 2 long 2;";
        String place = "place 1 when all;";
        String kept = "kept 1 when all;";
        due("six place", Check.told(start + place.repeat(6)).has(5), 6);
        faulty(5, start + place.repeat(6) + "^" + place);
        due("six note", Check.told(start + "note 1 when all;".repeat(6)).has(6), 6);
        faulty(5, start + "note 1 when all;".repeat(6) + " ^note #");
        due("four kept", Check.told(start + kept.repeat(4)).has(7), 4);
        faulty(5, start + kept.repeat(4) + "^" + kept);
        String tunes = "tune a 0 0 keep 0; tune b 0 0 keep 0; tune c 0 0 keep 0;";
        due("three tunes", Check.told(start + tunes).has(2), 3);
        faulty(5, start + tunes + "^tune a 0 0 keep 0;");
        String doors = "door d strict; door e strict; door f strict; door g strict;";
        due("four doors", Check.told(start + doors).has(3), 4);
        faulty(5, start + doors + "^door h strict;");
        StringBuilder persons = new StringBuilder(start + tunes + doors);
        for (char name = 'p'; name < 't'; name++) {
            persons.append("person ").append(name).append(" door d tune a loses 0 errs 0;");
        }
        due("four persons", Check.told(persons.toString()).has(4), 4);
        faulty(5, persons + "^person x door d tune a loses 0 errs 0;");
        due("many worths", Check.told(start + "worth 1 2;".repeat(30)).has(9), 2);
        due("eight open", Check.told(start + "place " + "(".repeat(8) + "1" + ")".repeat(8) + " when all;").has(5), 1);
        faulty(5, start + "place " + "(".repeat(8) + "^(1" + ")".repeat(9) + " when all;");
        faulty(5, start + "place 1 when " + "[".repeat(8) + "^[all" + "]".repeat(9) + ";");
        faulty(5, start + "place 1 when " + "[".repeat(6) + "min(max(1,^(2)),3)=1");
        due("closed ones count no more", Check.told(start + "place " + "(1)+".repeat(20) + "1 when " + "[all] and ".repeat(20) + "all;").has(5), 1);
        faulty(1, start + "place " + "(".repeat(8) + "^[1");
        due("a long row of not", Check.told(start + "place 1 when " + "not ".repeat(300) + "all;").has(5), 1);
    }

    private static void hasAndNames() {
        TuneDoor x = Check.told("notes 4 long 3; tune abcdef 0 1 2 keep 3; tune z 0 0 0 keep 0; place 1 when all; place 2 when all;"
            + "note 1 when all; kept 1 when all; kept 2 when all; kept 3 when all; door hall strict;"
            + "person bo door hall tune z loses 0 errs 0; person al door hall tune abcdef loses 0 errs 0; worth 1 2; worth 30 4000;");
        int[] has = {4, 3, 2, 1, 2, 2, 1, 3, 30, 4000};
        for (int what = 0; what < has.length; what++) {
            due("has " + what, x.has(what), has[what]);
        }
        due("has(-1)", x.has(-1), NONE);
        due("has(10)", x.has(10), NONE);
        due("first letter", x.letter(0, 0, 0), 'a');
        due("sixth letter", x.letter(0, 0, 5), 'f');
        due("no seventh", x.letter(0, 0, 6), NONE);
        due("no letter -1", x.letter(0, 0, -1), NONE);
        due("z", x.letter(0, 1, 0), 'z');
        due("no second", x.letter(0, 1, 1), NONE);
        due("no third tune", x.letter(0, 2, 0), NONE);
        due("no tune -1", x.letter(0, -1, 0), NONE);
        due("door letter", x.letter(1, 0, 3), 'l');
        due("no second door", x.letter(1, 1, 0), NONE);
        due("person letter", x.letter(2, 1, 0), 'a');
        due("person letter", x.letter(2, 0, 1), 'o');
        due("no third person", x.letter(2, 2, 0), NONE);
        due("no kind 3", x.letter(3, 0, 0), NONE);
        due("no kind -1", x.letter(-1, 0, 0), NONE);
    }

    private static void doorsAndPersons() {
        TuneDoor x = Check.told("notes 4 long 2; tune a 0 1 keep 3; tune b 0 0 keep 0; tune c 1 1 keep 0; door d window 7 2; door e pair 5;"
            + "door f lip 3 1; door g reset 4 6; person p door d tune c loses 12 errs 34; person q door d tune a loses 0 errs 100;"
            + "person r door f tune b loses 0 errs 0; person s door f tune b loses 0 errs 0;");
        int[][] doors = {{1, 7, 2, 5}, {2, 5, 0, 0}, {3, 3, 1, 2}, {4, 4, 6, 0}};
        for (int d = 0; d < 4; d++) {
            for (int what = 0; what < 4; what++) {
                due("door " + d + " " + what, x.door(d, what), doors[d][what]);
            }
        }
        due("door(0, 4)", x.door(0, 4), NONE);
        due("door(0, -1)", x.door(0, -1), NONE);
        due("door(4, 0)", x.door(4, 0), NONE);
        due("door(-1, 0)", x.door(-1, 0), NONE);
        int[] person = {0, 2, 0, 12, 34, 0, 0};
        for (int what = 0; what < person.length; what++) {
            due("person 0 " + what, x.person(0, what), person[what]);
        }
        due("person(2, 0)", x.person(2, 0), 2);
        due("person(0, 7)", x.person(0, 7), NONE);
        due("person(0, -1)", x.person(0, -1), NONE);
        due("person(4, 0)", x.person(4, 0), NONE);
        due("person(-1, 0)", x.person(-1, 0), NONE);
        TuneDoor y = Check.told("notes 2 long 2; door d strict;");
        due("strict", y.door(0, 0), 0);
        due("strict first", y.door(0, 1), 0);
    }

    private static void notes() {
        TuneDoor x = Check.told(SMALL);
        int[] numbers = {0, 3, 6, 0, 3};
        for (int n = 0; n < numbers.length; n++) {
            due("number " + n, x.note(0, n, NONE), numbers[n]);
            due("first note " + n, x.note(0, n, 0), n % 3);
            due("last note " + n, x.note(0, n, 1), 0);
            due("kept " + n, x.note(0, n, -2), 5);
        }
        due("the last whistle", x.note(0, 999, 0), 0);
        due("the one ahead", x.note(0, 998, 0), 2);
        due("whistle 1000", x.note(0, 1000, 0), NONE);
        due("whistle -1", x.note(0, -1, 0), NONE);
        due("place 2", x.note(0, 0, 2), NONE);
        due("place -3", x.note(0, 0, -3), NONE);
        due("tune 1", x.note(1, 0, 0), NONE);
        due("tune -1", x.note(-1, 0, 0), NONE);
        TuneDoor y = Check.told(NINE);
        int[] nine = {0, 9, 12, 13, 22, 25, 26, 8, 2, 0};
        for (int n = 0; n < nine.length; n++) {
            due("of nine " + n, y.note(0, n, NONE), nine[n]);
        }
        TuneDoor z = Check.told("notes 6 long 3; tune a 1 2 3 keep 40; place 0-1 when all; note 0-sum when here=2; kept kept-45 when all;");
        due("PLACE never below 0", z.note(0, 1, 2), 0);
        due("other notes stay", z.note(0, 1, 0), 1);
        due("kept modulo 100", z.note(0, 1, -2), 95);
        due("by what was ahead", z.note(0, 2, 2), 3);
        due("the rule that holds first", Check.told("notes 6 long 2; tune a 3 4 keep 0; place 1 when first>3; place 1 when last=4; place 0 when all;"
            + "note 0 when old=3; note 2 when old=4; note 5 when all;").note(0, 1, 1), 2);
        due("none that holds: place 0", Check.told("notes 6 long 2; tune a 3 4 keep 0; place 1 when first>3;").note(0, 1, 0), 4);
        due("none that holds: old and 1", Check.told("notes 6 long 2; tune a 5 4 keep 0; note 3 when not all;").note(0, 1, 0), 0);
        due("none that holds: kept stays", Check.told("notes 6 long 2; tune a 5 4 keep 9; kept 3 when sum<9;").note(0, 1, -2), 9);
        due("old is 0 for place", Check.told("notes 6 long 2; tune a 5 4 keep 0; place 1 when old=0 and here=0;").note(0, 1, 1), 5);
        due("here is 0 for kept", Check.told("notes 6 long 2; tune a 5 4 keep 0; place 1 when all; kept old+here*10+7 when all;").note(0, 1, -2), 7);
        due("old and here for note", Check.told("notes 6 long 2; tune a 5 4 keep 0; place 1 when all; note old-here*2 when old=4;").note(0, 1, 1), 2);
    }

    /** Sums as what is KEPT next; the tune is 3 1 2, KEPT 50. */
    private static void sum(String sum, int want) {
        due(sum, Check.told("notes 4 long 3; tune a 3 1 2 keep 50; kept " + sum + " when all;").note(0, 1, -2), want);
    }

    private static void sums() {
        sum("7", 7);
        sum("9999", 99);
        sum("sum", 6);
        sum("first*10+last", 32);
        sum("kept", 50);
        sum("1+2*3", 7);
        sum("(1+2)*3", 9);
        sum("9-3-2", 4);
        sum("80/8/5", 2);
        sum("7*9%5", 3);
        sum("17/5", 3);
        sum("(0-17)/5", 96);
        sum("17/(0-5)", 96);
        sum("(0-17)/(0-5)", 3);
        sum("17%5", 2);
        sum("(0-17)%5", 3);
        sum("(0-17)%(0-5)", 98);
        sum("17%(0-5)", 97);
        sum("8/0", 0);
        sum("8%0", 0);
        sum("3+8/(1-1)", 3);
        sum("min(4,9)+max(4,9)*2", 22);
        sum("min(2-5,0)", 97);
        sum("0-1", 99);
        // Limits: 1000000 / 9000 is 111, the other way -112.
        sum("9999*9999/9000", 11);
        sum("9999*101/9000", 11);
        sum("(1000*999+9999)/9000", 11);
        sum("9999*9999*9999/9000", 11);
        sum("9999 * ( 0 - 9999 ) / 9000", 88);
        sum("(0-1000*999-9999)/9000", 88);
        sum("9999*9999-9999*9999", 0);
    }

    private static void test(String test, boolean want) {
        due(test, Check.told("notes 4 long 3; tune a 3 1 2 keep 50; kept 1 when " + test + "; kept 0 when all;").note(0, 1, -2), want ? 1 : 0);
    }

    private static void tests() {
        test("all", true);
        test("not all", false);
        test("not not all", true);
        test("1<2", true);
        test("2<2", false);
        test("2>1", true);
        test("2>2", false);
        test("2=2", true);
        test("1=2", false);
        test("not 1=2", true);
        test("not 1=1 or 1=1", true);
        test("not [1=1 or 1=1]", false);
        test("1=1 or 1=2 and 1=2", true);
        test("[1=1 or 1=2] and 1=2", false);
        test("1=2 and 1=2 or 1=1", true);
        test("not 1=2 and 1=2", false);
        test("all and all and not all", false);
        test("not all or not all or all", true);
        test("sum-first=last+1", true);
        test("(1)<(2)", true);
        test("kept>sum*8 and kept<sum*9", true);
    }

    private static void rounds() {
        TuneDoor x = Check.told(SMALL + "tune b 1 2 keep 0;");
        due("round start", x.round(0, 0), 0);
        due("round length", x.round(0, 1), 3);
        due("round(0, 2)", x.round(0, 2), NONE);
        due("round(0, -1)", x.round(0, -1), NONE);
        due("round(2, 0)", x.round(2, 0), NONE);
        due("round(-1, 0)", x.round(-1, 0), NONE);
        TuneDoor y = Check.told("notes 3 long 2; tune a 0 0 keep 3; note 2 when all; kept max(kept-1,0) when all;");
        due("with what is KEPT", y.round(0, 0), 3);
        due("with what is KEPT", y.round(0, 1), 1);
        TuneDoor z = Check.told("notes 6 long 2; tune a 0 0 keep 0; place 1 when kept=0; kept kept+1 when all;");
        due("a long one", z.round(0, 1), 600);
        due("a long one", z.round(0, 0), 0);
        TuneDoor slow = Check.told("notes 6 long 3; tune a 0 0 0 keep 0; place 2 when kept=0; place 1 when kept=1 and last=0;"
            + "note old when kept>1; kept kept+1 when all;");
        due("one of 3600 is beyond", slow.round(0, 0), NONE);
        due("one of 3600 is beyond", slow.round(0, 1), NONE);
    }

    private static void finding() {
        TuneDoor x = Check.told(SMALL);
        due("find from 0", x.find(0, 0, 6), 2);
        due("find from itself", x.find(0, 2, 6), 2);
        due("find behind", x.find(0, 3, 6), 5);
        due("find at the end", x.find(0, 999, 0), 999);
        due("find none", x.find(0, 999, 3), NONE);
        due("find no tune of it", x.find(0, 0, 1), NONE);
        due("find number 9", x.find(0, 0, 9), NONE);
        due("find number -1", x.find(0, 0, -1), NONE);
        due("find from 1000", x.find(0, 1000, 0), NONE);
        due("find from -1", x.find(0, -1, 0), NONE);
        due("find in 1", x.find(1, 0, 0), NONE);
    }

    private static TuneDoor nine(String kind) {
        return Check.told(NINE + "door d " + kind + "; person p door d tune a loses 25 errs 0; person q door d tune a loses 0 errs 0;");
    }

    private static void ear(TuneDoor x, int count, int half, int tries) {
        due("ear COUNT", x.ear(0, 0, 0), count);
        due("ear HALF", x.ear(0, 0, 1), half);
        due("ear TRIES", x.ear(0, 0, 2), tries);
    }

    private static void strictDoor() {
        TuneDoor x = nine("strict");
        due("strict at 0", x.come(0), 0);
        ear(x, 1, NONE, 0);
        due("strict 0 again", x.come(1), NONE);
        due("strict 1", x.come(1), 0);
        x.waste(0, 2);
        due("strict 3 at 2", x.come(0), NONE);
        ear(x, 2, NONE, 1);
        due("let in", x.person(1, 5), 1);
        due("kept out", x.person(1, 6), 1);
        due("opened by", x.opened(0, 0), 0);
        due("opened", x.opened(0, 1), 2);
        due("shut", x.opened(0, 2), 2);
        due("opened(0, 3)", x.opened(0, 3), NONE);
        due("opened(1, 0)", x.opened(1, 0), NONE);
        due("ear(0, 0, 3)", x.ear(0, 0, 3), NONE);
        due("ear(0, 1, 0)", x.ear(0, 1, 0), NONE);
        due("ear(1, 0, 0)", x.ear(1, 0, 0), NONE);
        due("ear(0, -1, 0)", x.ear(0, -1, 0), NONE);
    }

    private static void windowDoor() {
        TuneDoor x = nine("window 3 2");
        x.waste(0, 4);
        due("beyond the window", x.come(0), NONE);
        ear(x, 0, NONE, 1);
        x.waste(1, 3);
        due("at its edge", x.come(1), 0);
        ear(x, 4, NONE, 0);
        due("ahead by one", x.come(0), 0);
        ear(x, 6, NONE, 0);
        due("back by two", x.come(1), 0);
        ear(x, 6, NONE, 0);
        TuneDoor y = nine("window 3 2");
        y.waste(0, 3);
        y.come(0);
        y.come(0);
        due("back by five", y.come(1), NONE);
        ear(y, 5, NONE, 1);
        due("back by four", y.come(1), NONE);
        due("back by three", y.come(1), NONE);
        due("back by two", y.come(1), 0);
        ear(y, 5, NONE, 0);
        TuneDoor z = Check.told(SMALL + "door d window 3 2; person p door d tune a loses 0 errs 0;");
        z.waste(0, 3);
        due("the least that is the tune", z.come(0), 0);
        due("is 0, not 3", z.ear(0, 0, 0), 1);
    }

    private static void pairDoor() {
        TuneDoor x = nine("pair 3");
        x.waste(0, 3);
        due("half", x.come(0), NONE);
        ear(x, 0, 3, 1);
        due("whole", x.come(0), 0);
        ear(x, 5, NONE, 0);
        x.waste(1, 6);
        due("half 6", x.come(1), NONE);
        ear(x, 5, 6, 1);
        due("the right one goes ahead of the pair", x.come(0), 0);
        ear(x, 6, NONE, 0);
        TuneDoor y = nine("pair 3");
        y.waste(0, 4);
        due("too far", y.come(0), NONE);
        ear(y, 0, NONE, 1);
        y.waste(1, 2);
        due("half 2", y.come(1), NONE);
        ear(y, 0, 2, 2);
        y.waste(1, 1);
        due("not behind it", y.come(1), NONE);
        ear(y, 0, NONE, 3);
        TuneDoor z = nine("pair 3");
        z.waste(0, 1);
        z.come(0);
        z.come(0);
        z.waste(1, 4);
        z.come(1);
        ear(z, 3, 4, 1);
        z.waste(1, 1);
        due("half anew", z.come(1), NONE);
        ear(z, 3, 6, 2);
    }

    private static void lipDoor() {
        TuneDoor x = nine("lip 2 1");
        due("one note otherwise", x.slip(0, 2, 2), 0);
        ear(x, 1, NONE, 0);
        x.waste(0, 1);
        due("whistle 2 for 1", x.come(0), 0);
        ear(x, 2, NONE, 0);
        x.waste(0, 2);
        due("whistle 5 is 4 but for one", x.come(0), 0);
        ear(x, 5, NONE, 0);
        due("too unlike", x.come(1), NONE);
        ear(x, 5, NONE, 1);
        TuneDoor y = nine("lip 0 3");
        due("all notes may be otherwise", y.waste(0, 50), 50);
        due("any", y.come(0), 0);
        due("stranger of all", y.stranger(0, NONE), 27);
    }

    private static void resetDoor() {
        TuneDoor x = nine("reset 1 2");
        x.waste(0, 5);
        due("first", x.come(0), NONE);
        due("second", x.come(0), NONE);
        ear(x, 0, NONE, 2);
        due("third: listens far", x.come(0), 0);
        ear(x, 8, NONE, 0);
        x.waste(0, 2);
        due("shut again", x.come(0), NONE);
        ear(x, 8, NONE, 1);
        TuneDoor y = nine("reset 1 1");
        y.come(0);
        due("TRIES below 1", y.come(1), NONE);
        due("one more", y.come(1), 0);
    }

    private static void twoEars() {
        String text = "notes 3 long 2; tune a 0 0 keep 0; tune b 1 0 keep 0; tune c 0 0 keep 0; door d %s; door e strict;"
            + "person p door d tune b loses 0 errs 0; person q door d tune a loses 0 errs 0; person r door e tune c loses 0 errs 0;";
        TuneDoor x = Check.told(String.format(text, "window 1 0"));
        due("the first TUNE by number opens", x.come(0), 0);
        due("its EAR changes", x.ear(0, 0, 0), 2);
        due("the other one stays", x.ear(0, 1, 0), 0);
        due("opened latest", x.opened(0, 0), 0);
        due("let in by another's tune", x.person(0, 5), 1);
        due("apart", x.apart(0), 1);
        due("apart of the other", x.apart(1), -2);
        TuneDoor y = Check.told(String.format(text, "strict"));
        due("second TUNE", y.come(0), 1);
        due("then first", y.come(1), 0);
        due("neither", y.slip(0, 1, 2), NONE);
        due("TRIES of each", y.ear(0, 0, 2), 1);
        due("TRIES of each", y.ear(0, 1, 2), 1);
        due("no others", y.ear(1, 2, 2), 0);
        due("one opens", y.come(1), 0);
        due("its TRIES go", y.ear(0, 0, 2), 0);
        due("the other's stay", y.ear(0, 1, 2), 1);
        TuneDoor z = nine("strict");
        due("254 TRIES", Scenes.on(z, 0, 0, 0, 0, 0, 0, 0, 0, 254), true);
        Check.tape(z, 2, 1, 0);
        due("listen in vain", z.listen(0), NONE);
        due("255 TRIES", z.ear(0, 0, 2), 255);
        Check.tape(z, 2, 1, 0);
        due("listen in vain", z.listen(0), NONE);
        due("255 at most", z.ear(0, 0, 2), 255);
    }

    private static void comingAndSlipping() {
        TuneDoor x = nine("strict");
        due("come(2)", x.come(2), -2);
        due("come(-1)", x.come(-1), -2);
        due("slip with the right note", x.slip(0, 0, 0), -2);
        due("slip note 3", x.slip(0, 0, 3), -2);
        due("slip note -1", x.slip(0, 0, -1), -2);
        due("slip place 3", x.slip(0, 3, 1), -2);
        due("slip place -1", x.slip(0, -1, 1), -2);
        due("slip person 2", x.slip(2, 0, 1), -2);
        due("refusals", x.status(2), 8);
        due("COUNT stays", x.person(0, 2), 0);
        due("a wrong note", x.slip(0, 0, 1), NONE);
        due("COUNT goes on", x.person(0, 2), 1);
        due("kept out", x.person(0, 6), 1);
        due("no more refusals", x.status(2), 8);
        for (int i = 0; i < 10; i++) {
            x.waste(1, 99);
        }
        due("COUNT 999", x.waste(1, 9), 999);
        due("come at 999", x.come(1), 0);
        due("EAR", x.ear(0, 0, 0), 1);
        due("come at 1000", x.come(1), -2);
        due("slip at 1000", x.slip(1, 0, 1), -2);
        due("COUNT 1000", x.person(1, 2), 1000);
        due("let in", x.person(1, 5), 1);
    }

    private static void wasting() {
        TuneDoor x = nine("strict");
        due("waste 1", x.waste(0, 1), 1);
        due("waste 99", x.waste(0, 99), 100);
        due("waste 0", x.waste(0, 0), NONE);
        due("waste 100", x.waste(0, 100), NONE);
        due("waste -1", x.waste(0, -1), NONE);
        due("waste of 2", x.waste(2, 1), NONE);
        due("refusals", x.status(2), 4);
        for (int i = 0; i < 9; i++) {
            x.waste(0, 99);
        }
        due("to 991", x.person(0, 2), 991);
        due("to 1001", x.waste(0, 10), NONE);
        due("to 1000", x.waste(0, 9), 1000);
        due("further", x.waste(0, 1), NONE);
        due("nobody was kept out", x.person(0, 6), 0);
    }

    private static void listening() {
        TuneDoor x = nine("window 3 0");
        Check.tape(x, 1, 1, 0);
        due("listen to whistle 2", x.listen(0), 0);
        ear(x, 3, NONE, 0);
        due("opened", x.opened(0, 1), 1);
        due("the tape goes", x.end(1), false);
        Check.tape(x, 2, 1, 0);
        due("listen in vain", x.listen(0), NONE);
        due("shut", x.opened(0, 2), 1);
        Check.tape(x, 1, 1, 3);
        due("no such note", x.listen(0), -2);
        due("it goes all the same", x.end(1), false);
        Check.tape(x, 1, 1, 255);
        due("no such note", x.listen(0), -2);
        Check.tape(x, 1, 1);
        due("too short", x.listen(0), -2);
        Check.tape(x, 1, 1, 1, 1);
        due("too long", x.listen(0), -2);
        due("nothing", x.listen(0), -2);
        Check.tape(x, 1, 1, 1);
        due("no such door", x.listen(1), -2);
        due("it goes all the same", x.end(1), false);
        due("refusals", x.status(2), 6);
        due("shut by none of these", x.opened(0, 2), 1);
        due("no person", x.person(0, 5), 0);
        TuneDoor y = Check.told(SMALL + "door d strict;");
        Check.tape(y, 0, 0);
        due("a door without ears", y.listen(0), NONE);
        due("stays shut", y.opened(0, 2), 1);
    }

    private static void apartAndMend() {
        TuneDoor x = nine("pair 4");
        due("mend at once", x.mend(0), 1);
        x.waste(0, 3);
        due("apart", x.apart(0), 3);
        due("mend by a pair", x.mend(0), 2);
        ear(x, 0, NONE, 0);
        due("mend stays", x.person(0, 2), 3);
        due("mend opens nothing", x.opened(0, 1) + x.opened(0, 2), 0);
        due("apart(2)", x.apart(2), -10000);
        due("apart(-1)", x.apart(-1), -10000);
        due("mend(2)", x.mend(2), NONE);
        TuneDoor y = nine("reset 0 7");
        y.waste(0, 1);
        due("mend by the eighth", y.mend(0), 8);
        TuneDoor z = Check.told("notes 2 long 2; tune a 0 0 keep 0; tune b 1 1 keep 0; place 1 when all; note 1 when all;"
            + "door d strict; person p door d tune a loses 0 errs 0; person q door d tune b loses 0 errs 0;");
        z.waste(0, 1);
        due("never mends", z.mend(0), NONE);
        String slow = "notes 2 long 2; tune a 1 0 keep 0; note 1 when kept=%d; note 0 when all; kept kept+1 when kept<%d; kept 0 when all;"
            + "door d strict; person p door d tune a loses 0 errs 0;";
        TuneDoor fifty = Check.told(String.format(slow, 49, 49));
        fifty.waste(0, 1);
        due("mend by the fiftieth", fifty.mend(0), 50);
        TuneDoor more = Check.told(String.format(slow, 50, 50));
        more.waste(0, 1);
        due("not within 50", more.mend(0), NONE);
        TuneDoor late = late("strict", 998, 1);
        due("at the end nobody comes any more", late.mend(0), NONE);
    }

    /** NINE with COUNT person and COUNT ear told by an image. */
    private static TuneDoor late(String kind, int count, int ear) {
        TuneDoor x = nine(kind);
        Scenes.on(x, count >> 8, count & 255, count >> 8, count & 255, ear >> 8, ear & 255, 0, 0, 0);
        return x;
    }

    private static void wouldBe() {
        TuneDoor x = nine("window 1 0");
        due("both", x.would(0), 3);
        x.waste(0, 2);
        due("the second", x.would(0), 2);
        x.come(1);
        due("both again", x.would(0), 3);
        due("would(1)", x.would(1), NONE);
        due("would(-1)", x.would(-1), NONE);
        ear(x, 1, NONE, 0);
        due("at COUNT 1000 nobody", late("lip 0 3", 1000, 0).would(0), 0);
        due("at COUNT 999 both", late("lip 0 3", 999, 0).would(0), 3);
        due("an EAR at 1000 hears none", late("lip 0 3", 999, 1000).would(0), 0);
        due("but for what is behind", late("window 0 1", 999, 1000).would(0), 3);
    }

    private static void likely() {
        TuneDoor x = nine("strict");
        due("likely 1", x.likely(0, 1), 750000000);
        due("likely 2", x.likely(0, 2), 562500000);
        due("lost 1", x.lost(0, 1), 250000000);
        due("lost 2", x.lost(0, 2), 437500000);
        due("likely of no loss", x.likely(1, 8), 1000000000);
        due("lost of no loss", x.lost(1, 8), 0);
        // The fifth one may whistle WHISTLE 9, which is 0 again, if all five wasted one.
        due("likely 5", x.likely(0, 5), 237304687 + 976562);
        TuneDoor longer = Check.told("notes 6 long 3; tune a 0 0 0 keep 0; place kept when all; kept (kept+1)%3 when all;"
            + "door d strict; person p door d tune a loses 25 errs 0;");
        due("likely 8 is floored at each step", longer.likely(0, 8), 100112914);
        due("likely(0, 0)", x.likely(0, 0), -1);
        due("likely(0, 9)", x.likely(0, 9), -1);
        due("likely(2, 1)", x.likely(2, 1), -1);
        due("lost(0, 0)", x.lost(0, 0), -1);
        due("lost(0, 9)", x.lost(0, 9), -1);
        due("lost(-1, 1)", x.lost(-1, 1), -1);
        TuneDoor y = nine("window 1 0");
        due("a window of one", y.likely(0, 3), 1000000000);
        due("nothing lost", y.lost(0, 8), 0);
        due("all stays", y.person(0, 2), 0);
        ear(y, 0, NONE, 0);
        TuneDoor z = nine("pair 2");
        // Kept out by one wasted, let in by the next if none is wasted then.
        due("a pair, 1", z.likely(0, 1), 750000000);
        due("a pair, 2", z.likely(0, 2), 562500000 + 187500000);
        due("a pair, lost", z.lost(0, 2), 437500000);
    }

    private static void likelyAtTheEnd() {
        TuneDoor x = late("lip 0 3", 999, 0);
        due("one may come", x.likely(0, 1), 750000000);
        due("the second can't", x.likely(0, 2), 0);
        due("so all are lost", x.lost(0, 2), 1000000000);
        TuneDoor y = late("lip 0 3", 1000, 0);
        due("nobody comes", y.likely(0, 1), 0);
        due("all lost", y.lost(1, 3), 1000000000);
    }

    private static void bearing() {
        TuneDoor x = nine("window 3 0");
        due("bears 3", x.bears(0), 3);
        x.waste(0, 1);
        due("bears 2", x.bears(0), 2);
        x.waste(0, 3);
        due("not even none", x.bears(0), NONE);
        due("bears(2)", x.bears(2), NONE);
        due("60 at most", nine("window 9 0").bears(0), 60);
        due("to the end", late("lip 0 3", 990, 0).bears(0), 9);
        due("any fewer too", Check.told(SMALL + "door d strict; person p door d tune a loses 0 errs 0;").bears(0), 0);
        ear(x, 0, NONE, 0);
    }

    private static void strangers() {
        TuneDoor x = nine("window 3 0");
        due("four tunes", x.stranger(0, NONE), 4);
        due("no try", x.stranger(0, 0), 0);
        due("one try", x.stranger(0, 1), 1000000000 - 1000000000L * 23 / 27);
        due("two tries", x.stranger(0, 2), 1000000000 - 1000000000L * 23 / 27 * 23 / 27);
        due("501 tries", x.stranger(0, 501), -1);
        due("-2 tries", x.stranger(0, -2), -1);
        due("door 1", x.stranger(1, 1), -1);
        due("500 tries", x.stranger(0, 500) > 999999900, true);
        x.waste(0, 3);
        x.come(0);
        due("behind count for none", x.stranger(0, NONE), 4);
        TuneDoor y = nine("window 3 2");
        y.come(0);
        due("one behind", y.stranger(0, NONE), 5);
        y.come(0);
        y.come(0);
        due("two behind", y.stranger(0, NONE), 6);
        due("unlike ones alone", Check.told(SMALL + "door d window 9 0; person p door d tune a loses 0 errs 0;").stranger(0, NONE), 3);
        due("without ears", Check.told(SMALL + "door d window 9 0;").stranger(0, NONE), 0);
        due("without ears", Check.told(SMALL + "door d window 9 0;").stranger(0, 400), 0);
        due("strict", nine("strict").stranger(0, NONE), 1);
        due("lip of one note", nine("lip 0 1").stranger(0, NONE), 7);
        due("lip of 000 and 100", nine("lip 1 1").stranger(0, NONE), 3 + 4 + 4);
        TuneDoor pair = nine("pair 3");
        pair.waste(0, 2);
        pair.come(0);
        due("pair", pair.stranger(0, NONE), 2);
        TuneDoor reset = nine("reset 1 1");
        due("reset", reset.stranger(0, NONE), 2);
        reset.waste(0, 3);
        reset.come(0);
        due("reset behind TRIES", reset.stranger(0, NONE), 9);
        due("at the end", late("window 9 0", 0, 999).stranger(0, NONE), 1);
        due("behind the end", late("window 9 0", 0, 1000).stranger(0, NONE), 0);
    }

    private static void nearness() {
        due("one note", nine("window 3 0").near(0), 1);
        due("one alone", nine("window 0 9").near(0), NONE);
        due("strict", nine("strict").near(0), NONE);
        due("pair", nine("pair 1").near(0), 1);
        due("reset", nine("reset 1 1").near(0), 1);
        due("like ones", Check.told("notes 3 long 2; tune a 0 0 keep 0; note 0 when all; door d window 9 0; person p door d tune a loses 0 errs 0;").near(0), NONE);
        due("near(1)", nine("strict").near(1), NONE);
        due("near(-1)", nine("strict").near(-1), NONE);
        due("no ears", Check.told(SMALL + "door d window 9 0;").near(0), NONE);
        due("three ears of 41", Check.told("notes 3 long 3; tune a 0 0 0 keep 0; tune b 1 1 1 keep 0; tune c 1 1 2 keep 0; note old when all;"
            + "door d lip 40 0; person p door d tune a loses 0 errs 0; person q door d tune b loses 0 errs 0;"
            + "person r door d tune c loses 0 errs 0;").near(0), 1);
        due("two ears", Check.told("notes 3 long 3; tune a 0 1 2 keep 0; tune b 1 2 2 keep 0; door d strict;"
            + "person p door d tune a loses 0 errs 0; person q door d tune b loses 0 errs 0;").near(0), 2);
    }

    private static void costs() {
        String text = NINE + "door d strict; person p door d tune a loses 25 errs 0; worth 100 1000;";
        TuneDoor x = Check.told(text);
        // A strict door: 100 times 0.25, and 1000 times 1/27; a window 1: 1000 times 2/27; a window 2: 3/27.
        due("cost 0", x.cost(0, 1, 0, 0), 62);
        due("cost 1", x.cost(0, 1, 1, 0), 74);
        due("cost 2", x.cost(0, 1, 2, 0), 111);
        due("the best", x.cost(0, 1, -5, 1), 0);
        due("the best of more comings", x.cost(0, 4, 99, 1), 1);
        due("cost 20", x.cost(0, 6, 20, 0), 333);
        due("window 21", x.cost(0, 1, 21, 0), NONE);
        due("window -1", x.cost(0, 1, -1, 0), NONE);
        due("n 0", x.cost(0, 0, 1, 0), NONE);
        due("n 7", x.cost(0, 7, 1, 1), NONE);
        due("what 2", x.cost(0, 1, 1, 2), NONE);
        due("what -1", x.cost(0, 1, 1, -1), NONE);
        due("person 1", x.cost(1, 1, 1, 0), NONE);
        due("the door stays", x.door(0, 0), 0);
        due("the first of like ones", Check.told(text + "worth 0 0;").cost(0, 3, 0, 1), 0);
        due("without worth", nine("strict").cost(0, 1, 0, 0), 0);
        TuneDoor far = Check.told("notes 6 long 4; tune a 0 0 0 0 keep 0; place kept when all; kept (kept+1)%4 when all;"
            + "door d strict; person p door d tune a loses 0 errs 0; worth 1000 0;");
        far.waste(0, 20);
        due("20 is the best", far.cost(0, 1, 0, 1), 20);
        due("it costs nothing", far.cost(0, 1, 20, 0), 0);
        due("19 lets nobody in", far.cost(0, 1, 19, 0), 1000);
        far.waste(0, 1);
        due("all alike", far.cost(0, 1, 0, 1), 0);
    }

    private static void formsHeard() {
        // The tune is by the form (0, 0, 1).
        TuneDoor x = Check.told(SMALL);
        due("all forms", x.knows(0, 0, 1), 2 * 2 * 2);
        // 00 to 10: place 0 at sum 0, so b is 0 and c 1; a is free.
        due("two whistles", x.knows(0, 0, 2), 2);
        // 10 to 20: place 0 at sum 1, so a is 0.
        due("three whistles", x.knows(0, 0, 3), 1);
        due("30 whistles", x.knows(0, 0, 30), 1);
        due("31 whistles", x.knows(0, 0, 31), NONE);
        due("0 whistles", x.knows(0, 0, 0), NONE);
        due("to the end", x.knows(0, 970, 30), 1);
        due("beyond the end", x.knows(0, 971, 30), NONE);
        due("from -1", x.knows(0, -1, 2), NONE);
        due("tune 1", x.knows(1, 0, 2), NONE);
        due("sure", x.sure(0, 0), 3);
        // 20 to 00 at sum 2 leaves a free, and 00 has sum 0: a counts for nothing.
        due("sure at once", x.sure(0, 2), 2);
        due("sure at the end", x.sure(0, 999), NONE);
        due("sure by the last two", x.sure(0, 998), 2);
        due("sure by the last three", x.sure(0, 997), 3);
        due("sure(0, 1000)", x.sure(0, 1000), NONE);
        due("sure(1, 0)", x.sure(1, 0), NONE);
        due("right by the first form", x.right(0, 0, 1), 1);
        due("right", x.right(0, 0, 3), 1);
        due("right up to 999", x.right(0, 969, 30), 1);
        due("nothing behind 999", x.right(0, 970, 30), NONE);
        due("right of 31", x.right(0, 0, 31), NONE);
        due("right of tune 1", x.right(1, 0, 1), NONE);
        TuneDoor y = Check.told("notes 4 long 2; tune a 0 0 keep 0; place 1 when kept>1; note old+kept when all; kept kept+1 when all;");
        // 00 00 10 12 11: a tune that stays is of no form.
        due("none fits", y.knows(0, 0, 2), 0);
        due("never sure", y.sure(0, 0), NONE);
        due("not right", y.right(0, 0, 2), NONE);
        due("00 to 10 fits", y.knows(0, 1, 2), 2);
        due("the first form errs", y.right(0, 1, 2), 0);
    }

    private static void sames() {
        TuneDoor x = Check.told("notes 3 long 2; tune a 0 0 keep 0; tune b 2 0 keep 1; tune c 0 1 keep 0;");
        due("the first", x.same(0, 1, 0), 0);
        due("of the other", x.same(0, 1, 1), 1);
        due("the other way", x.same(1, 0, 0), 0);
        due("the other way", x.same(1, 0, 1), 2);
        due("none", x.same(0, 2, 0), NONE);
        due("none", x.same(0, 2, 1), NONE);
        due("itself", x.same(0, 0, 0), NONE);
        due("tune 3", x.same(0, 3, 0), NONE);
        due("tune -1", x.same(-1, 0, 0), NONE);
        due("what 2", x.same(0, 1, 2), NONE);
        due("what -1", x.same(0, 1, -1), NONE);
        TuneDoor y = Check.told("notes 3 long 2; tune a 0 1 keep 9; tune b 2 0 keep 0; place 1 when kept=9; note 0 when kept=9; kept 0 when all;");
        due("later", y.same(0, 1, 0), 1);
        due("later", y.same(0, 1, 1), 1);
        // The last note counts the hundreds, the one ahead of it its rounds; b stays, and WHISTLE 999 of a is it.
        TuneDoor z = Check.told("notes 6 long 3; tune a 0 0 0 keep 0; tune b 1 1 4 keep 0; place 2 when kept=0;"
            + "place 1 when kept=1 and last=0; note old when first=1; note old+1 when kept=0; note old+1 when kept=1 and last=0;"
            + "note 1 when kept=98 and last=4 and sum=5; note old when all; kept kept+1 when all;");
        due("only at 999", z.find(0, 0, z.note(1, 0, NONE)), 999);
        due("of 0 .. 998", z.same(0, 1, 0), NONE);
        due("one of 0 .. 998", z.same(1, 0, 0), NONE);
        due("told apart up to 998", z.tells(0, 1, 998), 1);
        due("not at 999", z.tells(0, 1, 999), NONE);
    }

    private static void telling() {
        TuneDoor x = Check.told("notes 3 long 2; tune a 0 0 keep 0; tune b 0 0 keep 96; tune c 0 1 keep 0;"
            + "note 0 when kept=99; kept kept+1 when kept>0 and kept<99;");
        // b goes as a does up to whistle 3, then 00 for 10.
        due("the fifth one", x.tells(0, 1, 0), 5);
        due("from 4 on", x.tells(0, 1, 4), 1);
        due("at once", x.tells(0, 2, 0), 1);
        due("at 999", x.tells(0, 2, 999), 1);
        due("from 1000", x.tells(0, 2, 1000), NONE);
        due("from -1", x.tells(0, 2, -1), NONE);
        due("itself", x.tells(1, 1, 0), NONE);
        due("tune 3", x.tells(0, 3, 0), NONE);
        due("tune -1", x.tells(-1, 0, 0), NONE);
        due("never", Check.told("notes 3 long 2; tune a 0 0 keep 0; tune b 0 0 keep 1;").tells(0, 1, 0), NONE);
        due("none up to 999", x.tells(0, 1, 999), NONE);
    }

    private static void birds() {
        TuneDoor x = nine("window 3 2");
        due("once ahead, then behind", x.bird(0, 0, 2, 10), 10);
        due("beyond", x.bird(0, 0, 4, 10), 0);
        due("all stays", x.opened(0, 1) + x.opened(0, 2), 0);
        ear(x, 0, NONE, 0);
        due("strict, once", nine("strict").bird(0, 0, 0, 100), 1);
        due("reset: far behind two tries, then in vain, then the next of them", nine("reset 0 2").bird(0, 0, 5, 6), 2);
        due("101 mornings", x.bird(0, 0, 0, 101), NONE);
        due("0 mornings", x.bird(0, 0, 0, 0), NONE);
        due("whistle 1000", x.bird(0, 0, 1000, 1), NONE);
        due("whistle -1", x.bird(0, 0, -1, 1), NONE);
        due("tune 1", x.bird(0, 1, 0, 1), NONE);
        due("door 1", x.bird(1, 0, 0, 1), NONE);
        due("another's tune", Check.told(SMALL + "tune b 0 0 keep 0; door d strict; person p door d tune a loses 0 errs 0;").bird(0, 1, 0, 2), 1);
    }

    private static void nightsAndSeed() {
        TuneDoor x = nine("strict");
        due("nights(0)", x.nights(0), NONE);
        due("nights(61)", x.nights(61), NONE);
        due("refusals", x.status(3), 2);
        due("seed(-1)", x.seed(-1), false);
        due("refusals", x.status(4), 1);
        due("seed(0)", x.seed(0), true);
        due("the greatest seed", x.seed(Integer.MAX_VALUE), true);
        due("seed(1)", x.seed(1), true);
        // THE SEED 1 draws 1103527590, 2524885223 mod 2^31, .. as the document tells.
        long seed = 1;
        int[] count = new int[2];
        int ear = 0;
        int in = 0;
        for (int night = 0; night < 20; night++) {
            seed = (1103515245L * seed + 12345) % (1L << 31);
            int who = (int) (seed / 64 % 2);
            seed = (1103515245L * seed + 12345) % (1L << 31);
            count[who] += seed / 64 % 100 < (who == 0 ? 25 : 0) ? 1 : 0;
            seed = (1103515245L * seed + 12345) % (1L << 31);
            if (x.note(0, count[who], NONE) == x.note(0, ear, NONE)) {
                in++;
                ear++;
            }
            count[who]++;
        }
        due("20 nights", x.nights(20), in);
        due("COUNT 0", x.person(0, 2), count[0]);
        due("COUNT 1", x.person(1, 2), count[1]);
        due("EAR", x.ear(0, 0, 0), ear);
        due("opened by night", x.opened(0, 1), in);
        due("shut by night", x.opened(0, 2), 20 - in);
        due("let in", x.person(0, 5) + x.person(1, 5), in);
        due("nights without persons", Check.told(SMALL + "door d strict;").nights(1), NONE);
        TuneDoor wrong = Check.told("notes 2 long 2; tune a 0 0 keep 0; note 0 when all; door d strict; person p door d tune a loses 0 errs 100;");
        due("always a wrong note", wrong.nights(60), 0);
        due("kept out", wrong.person(0, 6), 60);
        TuneDoor losing = Check.told("notes 2 long 2; tune a 0 0 keep 0; note 0 when all; door d strict; person p door d tune a loses 100 errs 0;");
        due("always let in", losing.nights(60), 60);
        due("always one wasted", losing.person(0, 2), 120);
        TuneDoor late = late("lip 0 3", 1000, 0);
        due("nobody comes at 1000", late.nights(5), 0);
        due("nobody is kept out", late.person(0, 6) + late.person(1, 6), 0);
        due("no refusals", late.status(2), 0);
    }

    private static void images() {
        TuneDoor x = Check.told("notes 3 long 2; tune a 0 0 keep 0; tune b 0 1 keep 0; door d pair 5; door e strict; person p door d tune b loses 0 errs 0;");
        due("octet ahead of any", x.octet(0), NONE);
        due("size", x.image(), 2 + 4 * 5 + 1);
        for (int k = 0; k < 22; k++) {
            due("octet " + k, x.octet(k), 0);
        }
        x.waste(0, 99);
        x.waste(0, 99);
        x.waste(0, 99);
        x.waste(0, 5);
        due("half heard", x.come(0), NONE);
        due("half", x.ear(0, 1, 1), 2);
        due("octets stay", x.octet(1), 0);
        due("size", x.image(), 23);
        int[] want = {303 >> 8, 303 & 255, 0, 0, 0, 0, 0, 0, 0, 0, 3, 1, 0, 0, 0, 0, 0, 0, 0, 0, 0, 0, 0};
        int check = 33;
        for (int k = 0; k < 22; k++) {
            check = (7 * check + want[k]) % 241;
        }
        want[22] = check;
        for (int k = 0; k < 23; k++) {
            due("octet " + k, x.octet(k), want[k]);
        }
        due("octet(23)", x.octet(23), NONE);
        due("octet(-1)", x.octet(-1), NONE);
        due("come", x.come(0), 1);
        due("let in", x.person(0, 5), 1);
        Check.tape(x, want);
        due("on", x.on(), true);
        due("COUNT", x.person(0, 2), 303);
        due("EAR", x.ear(0, 1, 0), 0);
        due("HALF", x.ear(0, 1, 1), 2);
        due("TRIES", x.ear(0, 1, 2), 1);
        due("let in stays", x.person(0, 5), 1);
        due("opened stays", x.opened(0, 1), 1);
        due("opened stays", x.opened(0, 0), 1);
        due("come again", x.come(0), 1);
        due("the tape goes", x.end(1), false);
    }

    private static void statuses() {
        TuneDoor x = nine("strict");
        for (int what = 0; what < 6; what++) {
            due("status " + what, x.status(what), 0);
        }
        x.end(-1);
        x.house();
        x.house();
        x.come(9);
        x.slip(9, 0, 0);
        x.waste(9, 1);
        x.listen(9);
        x.nights(0);
        x.seed(-5);
        x.on();
        x.mend(9);
        x.likely(9, 1);
        x.bird(9, 9, 9, 9);
        x.octet(99);
        int[] want = {1, 2, 4, 1, 1, 1};
        for (int what = 0; what < 6; what++) {
            due("status " + what, x.status(what), want[what]);
        }
        due("status(6)", x.status(6), NONE);
        due("status(-1)", x.status(-1), NONE);
        Check.house(x, SMALL);
        due("they stay with a new house", x.status(2), 4);
    }
}
