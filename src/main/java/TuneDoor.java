import java.util.Arrays;

/** A house that is entered by whistling; shared/DOC.md says what each call answers and changes. */
public final class TuneDoor {
    public static final int NONE = -1;

    private static final int CANNOT = -2;
    private static final int NOTHING = -10000;
    private static final int MAX_TAPE = 1600;
    private static final int MAX_TUNES = 3;
    private static final int MAX_DOORS = 4;
    private static final int MAX_PERSONS = 4;
    private static final int MAX_NOTES = 6;
    private static final int MAX_LENGTH = 5;
    private static final int MAX_TUNE_NUMBERS = 7776;
    private static final int MAX_IMAGE = 2 * MAX_PERSONS + 5 * MAX_DOORS * MAX_TUNES + 1;
    private static final int WHISTLES = 1000;
    private static final int KEPT_BASE = 100;
    private static final int MOST_TRIES = 255;
    private static final int MOST_MENDING = 50;
    private static final int MOST_BORNE = 60;
    private static final int MOST_COMINGS = 8;
    private static final int MOST_HEARD = 30;
    private static final int BEST_OF = 20;
    private static final long WHOLE = 1000000000L;

    private static final int STRICT = 0;
    private static final int WINDOW = 1;
    private static final int PAIR = 2;
    private static final int LIP = 3;
    private static final int RESET = 4;
    private static final int RESET_REACH = 40;

    private static final int TAPE_REFUSED = 0;
    private static final int HOUSE_REFUSED = 1;
    private static final int DOOR_REFUSED = 2;
    private static final int NIGHTS_REFUSED = 3;
    private static final int SEED_REFUSED = 4;
    private static final int ON_REFUSED = 5;

    private final int[] tape = new int[MAX_TAPE];
    private int taped;
    private House live = new House();
    private House spare = new House();
    private final Tokens tokens = new Tokens();
    private final Reader reader = new Reader(tokens);
    private final Whistles whistles = new Whistles();
    private final Door trial = new Door();
    private final Ways ways = new Ways(whistles);
    private final TuneSet tuneSet = new TuneSet(whistles);
    private final Forms forms = new Forms();
    private final int[] picture = new int[MAX_IMAGE];
    private int pictured;
    private final int[] refusals = new int[6];
    private long seedNow = 1;

    public TuneDoor() {
    }

    // ---- the tape and the house

    public int feed(int a, int b, int c, int d, int e) {
        if (taped + 20 > MAX_TAPE) {
            refusals[TAPE_REFUSED]++;
            return NONE;
        }
        putNumber(a);
        putNumber(b);
        putNumber(c);
        putNumber(d);
        putNumber(e);
        return taped;
    }

    private void putNumber(int number) {
        for (int shift = 24; shift >= 0 && taped < tape.length; shift -= 8) {
            tape[taped] = (number >> shift) & 255;
            taped++;
        }
    }

    public boolean end(int n) {
        if (n < 0 || n > taped) {
            refusals[TAPE_REFUSED]++;
            return false;
        }
        taped = n;
        return true;
    }

    private int takeTape() {
        int size = taped;
        taped = 0;
        return size;
    }

    public int house() {
        tokens.split(tape, takeTape());
        int statements = reader.read(spare);
        if (statements == NONE) {
            refusals[HOUSE_REFUSED]++;
            return NONE;
        }
        House told = spare;
        spare = live;
        live = told;
        whistles.make(live);
        return statements;
    }

    public int fault(int what) {
        switch (what) {
            case 0: return reader.fault;
            case 1: return reader.faultPlace;
            default: return NONE;
        }
    }

    public int has(int what) {
        switch (what) {
            case 0: return live.notes;
            case 1: return live.length;
            case 2: return live.tunes;
            case 3: return live.doors;
            case 4: return live.persons;
            case 5: return live.rules.howMany(Rules.PLACE);
            case 6: return live.rules.howMany(Rules.NOTE);
            case 7: return live.rules.howMany(Rules.KEPT);
            case 8: return live.worthIn;
            case 9: return live.worthOut;
            default: return NONE;
        }
    }

    public int letter(int kind, int which, int k) {
        int name = nameOf(kind, which);
        int letters = 0;
        while (letters < Tokens.MOST_LETTERS && (name >> (Tokens.LETTER_BITS * letters)) > 0) {
            letters++;
        }
        if (k < 0 || k >= letters) {
            return NONE;
        }
        return 'a' - 1 + ((name >> (Tokens.LETTER_BITS * (letters - 1 - k))) & 31);
    }

    private int nameOf(int kind, int which) {
        Door door = doorAt(which);
        Person person = personAt(which);
        if (kind == 0 && isTune(which)) {
            return live.tuneNames[which];
        }
        if (kind == 1 && door != null) {
            return door.name;
        }
        return kind == 2 && person != null ? person.name : 0;
    }

    private boolean isTune(int tune) {
        return tune >= 0 && tune < live.tunes && tune < MAX_TUNES;
    }

    private static boolean isWhistle(int n) {
        return n >= 0 && n < WHISTLES;
    }

    private Door doorAt(int door) {
        return door >= 0 && door < live.doors && door < MAX_DOORS ? live.doorRow[door] : null;
    }

    private Person personAt(int person) {
        return person >= 0 && person < live.persons && person < MAX_PERSONS ? live.personRow[person] : null;
    }

    public int door(int door, int what) {
        Door at = doorAt(door);
        if (at == null) {
            return NONE;
        }
        switch (what) {
            case 0: return at.kind;
            case 1: return at.first;
            case 2: return at.second;
            case 3: return at.tunes;
            default: return NONE;
        }
    }

    public int person(int person, int what) {
        Person who = personAt(person);
        if (who == null) {
            return NONE;
        }
        switch (what) {
            case 0: return who.door;
            case 1: return who.tune;
            case 2: return who.count;
            case 3: return who.loses;
            case 4: return who.errs;
            case 5: return who.letIn;
            case 6: return who.keptOut;
            default: return NONE;
        }
    }

    // ---- tunes

    public int note(int tune, int n, int place) {
        if (!isTune(tune) || !isWhistle(n) || place < -2 || place >= live.length) {
            return NONE;
        }
        if (place == NONE) {
            return whistles.numberAt(tune, n);
        }
        return place == -2 ? whistles.keptAt(tune, n) : Whistles.noteIn(whistles.tuneAt(tune, n), place);
    }

    public int round(int tune, int what) {
        if (!isTune(tune) || what < 0 || what > 1) {
            return NONE;
        }
        int size = whistles.roundLength(tune);
        return what == 1 || size == NONE ? size : whistles.roundStart(tune, size);
    }

    public int find(int tune, int n, int number) {
        if (!isTune(tune) || !isWhistle(n)) {
            return NONE;
        }
        for (int i = n; i < WHISTLES; i++) {
            if (whistles.numberAt(tune, i) == number) {
                return i;
            }
        }
        return NONE;
    }

    // ---- at the door

    public int ear(int door, int tune, int what) {
        Door at = doorAt(door);
        if (at == null || !at.hasEar(tune)) {
            return NONE;
        }
        switch (what) {
            case 0: return at.count[tune];
            case 1: return at.half[tune];
            case 2: return at.tries[tune];
            default: return NONE;
        }
    }

    public int come(int person) {
        Person who = personAt(person);
        if (who == null || who.count >= WHISTLES) {
            refusals[DOOR_REFUSED]++;
            return CANNOT;
        }
        return whistleAtDoor(who, whistles.tuneAt(who.tune, who.count));
    }

    public int slip(int person, int place, int note) {
        Person who = personAt(person);
        boolean can = who != null && who.count < WHISTLES
            && place >= 0 && place < live.length && note >= 0 && note < live.notes
            && Whistles.noteIn(whistles.tuneAt(who.tune, who.count), place) != note;
        if (!can) {
            refusals[DOOR_REFUSED]++;
            return CANNOT;
        }
        return whistleAtDoor(who, Whistles.withNote(whistles.tuneAt(who.tune, who.count), place, note));
    }

    private int whistleAtDoor(Person who, int tune) {
        Door at = doorAt(who.door);
        int by = at == null ? NONE : at.hear(whistles, tune);
        who.count++;
        if (by == NONE) {
            who.keptOut++;
        } else {
            who.letIn++;
        }
        return by;
    }

    public int waste(int person, int n) {
        Person who = personAt(person);
        if (who == null || n < 1 || n > 99 || who.count + n > WHISTLES) {
            refusals[DOOR_REFUSED]++;
            return NONE;
        }
        who.count += n;
        return who.count;
    }

    public int listen(int door) {
        Door at = doorAt(door);
        int tune = tapedTune(takeTape());
        if (at == null || tune == NONE) {
            refusals[DOOR_REFUSED]++;
            return CANNOT;
        }
        return at.hear(whistles, tune);
    }

    private int tapedTune(int size) {
        if (size != live.length) {
            return NONE;
        }
        int tune = 0;
        for (int place = 0; place < size; place++) {
            if (tape[place] >= live.notes) {
                return NONE;
            }
            tune = Whistles.withNote(tune, place, tape[place]);
        }
        return tune;
    }

    public int opened(int door, int what) {
        Door at = doorAt(door);
        if (at == null) {
            return NONE;
        }
        switch (what) {
            case 0: return at.latest;
            case 1: return at.timesOpened;
            case 2: return at.timesShut;
            default: return NONE;
        }
    }

    public int apart(int person) {
        Person who = personAt(person);
        Door at = who == null ? null : doorAt(who.door);
        return at == null || !at.hasEar(who.tune) ? NOTHING : who.count - at.count[who.tune];
    }

    public int mend(int person) {
        Person who = personAt(person);
        if (who == null || !tryAt(who.door)) {
            return NONE;
        }
        for (int k = 1; k <= MOST_MENDING; k++) {
            if (trialOpens(who.tune, who.count + k - 1)) {
                return k;
            }
        }
        return NONE;
    }

    /** What is only asked about happens at the trial door, so that all stays. */
    private boolean tryAt(int door) {
        Door at = doorAt(door);
        if (at == null) {
            return false;
        }
        trial.copyFrom(at);
        return true;
    }

    private boolean trialOpens(int tune, int n) {
        return isWhistle(n) && trial.hear(whistles, whistles.tuneAt(tune, n)) != NONE;
    }

    public int would(int door) {
        if (doorAt(door) == null) {
            return NONE;
        }
        int bits = 0;
        for (int i = 0; i < MAX_PERSONS; i++) {
            Person who = personAt(i);
            if (who != null && who.door == door && tryAt(door) && trialOpens(who.tune, who.count)) {
                bits |= 1 << i;
            }
        }
        return bits;
    }

    // ---- how likely

    public long likely(int person, int n) {
        return weighWays(person, n, false);
    }

    public long lost(int person, int n) {
        return weighWays(person, n, true);
    }

    private long weighWays(int person, int n, boolean anyMissed) {
        Person who = personAt(person);
        Door at = who == null ? null : doorAt(who.door);
        if (at == null || n < 1 || n > MOST_COMINGS) {
            return NONE;
        }
        return ways.weigh(who, at, n, anyMissed);
    }

    public int bears(int person) {
        Person who = personAt(person);
        if (who == null) {
            return NONE;
        }
        int most = NONE;
        for (int n = 0; n <= MOST_BORNE; n++) {
            if (!tryAt(who.door) || !trialOpens(who.tune, who.count + n)) {
                return most;
            }
            most = n;
        }
        return most;
    }

    public long stranger(int door, int tries) {
        Door at = doorAt(door);
        if (at == null || tries < NONE || tries > 500) {
            return NONE;
        }
        int opening = tuneSet.countOpening(at);
        return tries == NONE ? opening : strangersChance(opening, tries);
    }

    private long strangersChance(int opening, int tries) {
        long all = whistles.all;
        long left = WHOLE;
        for (int i = 0; i < tries && all > 0; i++) {
            left = left * (all - opening) / all;
        }
        return WHOLE - left;
    }

    public int near(int door) {
        Door at = doorAt(door);
        return at == null ? NONE : tuneSet.leastApart(at);
    }

    public int cost(int person, int n, int window, int what) {
        Person who = personAt(person);
        if (who == null || n < 1 || n > 6 || what < 0 || what > 1) {
            return NONE;
        }
        if (what == 0) {
            return window < 0 || window > BEST_OF ? NONE : (int) costOf(who, n, window);
        }
        int best = 0;
        long least = costOf(who, n, 0);
        for (int a = 1; a <= BEST_OF; a++) {
            long costs = costOf(who, n, a);
            if (costs < least) {
                least = costs;
                best = a;
            }
        }
        return best;
    }

    private long costOf(Person who, int n, int window) {
        if (!tryAt(who.door)) {
            return NONE;
        }
        trial.kind = WINDOW;
        trial.first = window;
        trial.second = 0;
        long keptOut = WHOLE - ways.weigh(who, trial, n, false);
        long strangers = strangersChance(tuneSet.countOpening(trial), 1);
        return (live.worthIn * keptOut + live.worthOut * strangers) / WHOLE;
    }

    // ---- who has heard it

    public int knows(int tune, int n, int k) {
        return hearForms(tune, n, k) ? forms.howMany() : NONE;
    }

    private boolean hearForms(int tune, int n, int k) {
        if (!isTune(tune) || !isWhistle(n) || k < 1 || k > MOST_HEARD || n + k > WHISTLES) {
            return false;
        }
        forms.begin(live.length, live.notes);
        for (int i = n + 1; i < n + k; i++) {
            forms.narrow(whistles.tuneAt(tune, i - 1), whistles.tuneAt(tune, i));
        }
        return true;
    }

    public int sure(int tune, int n) {
        if (!isTune(tune) || !isWhistle(n)) {
            return NONE;
        }
        forms.begin(live.length, live.notes);
        for (int k = 2; k <= MOST_HEARD && n + k <= WHISTLES; k++) {
            int latest = whistles.tuneAt(tune, n + k - 1);
            forms.narrow(whistles.tuneAt(tune, n + k - 2), latest);
            if (forms.agree(latest)) {
                return k;
            }
        }
        return NONE;
    }

    public int right(int tune, int n, int k) {
        if (!hearForms(tune, n, k) || !isWhistle(n + k)) {
            return NONE;
        }
        int form = forms.firstFrom(0);
        if (form == NONE) {
            return NONE;
        }
        return forms.nextBy(form, whistles.tuneAt(tune, n + k - 1)) == whistles.tuneAt(tune, n + k) ? 1 : 0;
    }

    public int same(int tune, int other, int what) {
        if (!isTune(tune) || !isTune(other) || tune == other || what < 0 || what > 1) {
            return NONE;
        }
        tuneSet.noteFirsts(other, WHISTLES - 1);
        for (int i = 0; i < WHISTLES - 1; i++) {
            int first = tuneSet.firstOf(whistles.numberAt(tune, i));
            if (first != NONE) {
                return what == 0 ? i : first;
            }
        }
        return NONE;
    }

    public int tells(int tune, int other, int n) {
        if (!isTune(tune) || !isTune(other) || tune == other || !isWhistle(n)) {
            return NONE;
        }
        for (int i = n; i < WHISTLES; i++) {
            if (whistles.tuneAt(tune, i) != whistles.tuneAt(other, i)) {
                return i - n + 1;
            }
        }
        return NONE;
    }

    public int bird(int door, int tune, int n, int mornings) {
        if (!isTune(tune) || !isWhistle(n) || mornings < 1 || mornings > 100 || !tryAt(door)) {
            return NONE;
        }
        int letIn = 0;
        for (int i = 0; i < mornings; i++) {
            if (trialOpens(tune, n)) {
                letIn++;
            }
        }
        return letIn;
    }

    // ---- nights

    public int nights(int n) {
        if (n < 1 || n > 60 || live.persons == 0) {
            refusals[NIGHTS_REFUSED]++;
            return NONE;
        }
        int letIn = 0;
        for (int i = 0; i < n; i++) {
            if (night()) {
                letIn++;
            }
        }
        return letIn;
    }

    private boolean night() {
        Person who = personAt(draw(live.persons));
        if (who == null) {
            return false;
        }
        boolean wastes = draw(100) < who.loses;
        boolean errs = draw(100) < who.errs;
        int place = errs ? draw(live.length) : 0;
        int more = errs ? draw(live.notes - 1) + 1 : 0;
        if (wastes && who.count < WHISTLES) {
            who.count++;
        }
        if (who.count >= WHISTLES) {
            return false;
        }
        int tune = whistles.tuneAt(who.tune, who.count);
        int note = modulo(Whistles.noteIn(tune, place) + more, live.notes);
        return whistleAtDoor(who, Whistles.withNote(tune, place, note)) != NONE;
    }

    private int draw(int n) {
        seedNow = (1103515245L * seedNow + 12345L) & 0x7fffffffL;
        return n < 1 ? 0 : (int) (seedNow / 64 % n);
    }

    private static int modulo(int value, int by) {
        return by < 1 ? 0 : Math.floorMod(value, by);
    }

    public boolean seed(int to) {
        if (to < 0) {
            refusals[SEED_REFUSED]++;
            return false;
        }
        seedNow = to;
        return true;
    }

    // ---- images

    public int image() {
        pictured = 0;
        for (int i = 0; i < live.persons; i++) {
            Person who = personAt(i);
            putTwo(who == null ? 0 : who.count);
        }
        for (int i = 0; i < live.doors; i++) {
            Door at = doorAt(i);
            for (int t = 0; t < live.tunes && at != null; t++) {
                putTwo(at.count[t]);
                putTwo(at.half[t] + 1);
                putOctet(at.tries[t]);
            }
        }
        putOctet(checkOf(picture, pictured));
        return pictured;
    }

    private void putTwo(int value) {
        putOctet(value >> 8);
        putOctet(value & 255);
    }

    private void putOctet(int value) {
        if (pictured < picture.length) {
            picture[pictured] = value;
            pictured++;
        }
    }

    private static int checkOf(int[] bytes, int size) {
        int check = 33;
        for (int i = 0; i < size && i < bytes.length; i++) {
            check = (7 * check + bytes[i]) % 241;
        }
        return check;
    }

    public int octet(int k) {
        return k < 0 || k >= pictured || k >= picture.length ? NONE : picture[k];
    }

    public boolean on() {
        int size = takeTape();
        int due = 2 * live.persons + 5 * live.doors * live.tunes + 1;
        boolean good = live.notes > 0 && size == due && size <= tape.length
            && checkOf(tape, size - 1) == tape[size - 1] && personsFit() && earsFit();
        if (!good) {
            refusals[ON_REFUSED]++;
            return false;
        }
        restore();
        return true;
    }

    private int tapedTwo(int place) {
        return place < 0 || place + 1 >= tape.length ? 0 : tape[place] * 256 + tape[place + 1];
    }

    private int earPlace(int door, int tune) {
        return 2 * live.persons + 5 * (door * live.tunes + tune);
    }

    private boolean personsFit() {
        for (int i = 0; i < live.persons; i++) {
            if (tapedTwo(2 * i) > WHISTLES) {
                return false;
            }
        }
        return true;
    }

    private boolean earsFit() {
        for (int i = 0; i < live.doors; i++) {
            Door at = doorAt(i);
            for (int t = 0; t < live.tunes && at != null; t++) {
                if (!earFits(at, t, earPlace(i, t))) {
                    return false;
                }
            }
        }
        return true;
    }

    private boolean earFits(Door at, int tune, int place) {
        int count = tapedTwo(place);
        int half = tapedTwo(place + 2);
        if (!at.hasEar(tune)) {
            return count == 0 && half == 0 && tapedTwo(place + 3) == 0;
        }
        return count <= WHISTLES && half <= (at.kind == PAIR ? WHISTLES : 0);
    }

    private void restore() {
        for (int i = 0; i < live.persons; i++) {
            Person who = personAt(i);
            if (who != null) {
                who.count = tapedTwo(2 * i);
            }
        }
        for (int i = 0; i < live.doors; i++) {
            Door at = doorAt(i);
            for (int t = 0; t < live.tunes && at != null; t++) {
                int place = earPlace(i, t);
                at.count[t] = tapedTwo(place);
                at.half[t] = tapedTwo(place + 2) - 1;
                at.tries[t] = tapedTwo(place + 3) & 255;
            }
        }
    }

    public int status(int what) {
        return what < 0 || what >= refusals.length ? NONE : refusals[what];
    }

    /** One who whistles. */
    private static final class Person {
        int name;
        int door;
        int tune;
        int loses;
        int errs;
        int count;
        int letIn;
        int keptOut;

        void begin(int newName) {
            name = newName;
            count = 0;
            letIn = 0;
            keptOut = 0;
        }
    }

    /** A DOOR with its EARS. */
    private static final class Door {
        int name;
        int kind;
        int first;
        int second;
        int tunes;
        int latest;
        int timesOpened;
        int timesShut;
        final int[] count = new int[MAX_TUNES];
        final int[] half = new int[MAX_TUNES];
        final int[] tries = new int[MAX_TUNES];

        void begin(int newName) {
            name = newName;
            kind = STRICT;
            first = 0;
            second = 0;
            tunes = 0;
            latest = NONE;
            timesOpened = 0;
            timesShut = 0;
            Arrays.fill(count, 0);
            Arrays.fill(half, NONE);
            Arrays.fill(tries, 0);
        }

        void copyFrom(Door other) {
            kind = other.kind;
            first = other.first;
            second = other.second;
            tunes = other.tunes;
            for (int t = 0; t < MAX_TUNES; t++) {
                count[t] = other.count[t];
                half[t] = other.half[t];
                tries[t] = other.tries[t];
            }
        }

        boolean hasEar(int tune) {
            return tune >= 0 && tune < MAX_TUNES && ((tunes >> tune) & 1) == 1;
        }

        /** How many WHISTLES beyond COUNT open it. */
        int reach(int tune) {
            switch (kind) {
                case WINDOW:
                case LIP: return first;
                case RESET: return tries[tune] < second ? first : RESET_REACH;
                default: return 0;
            }
        }

        int hear(Whistles whistles, int heard) {
            for (int t = 0; t < MAX_TUNES; t++) {
                int next = hasEar(t) ? countIfOpened(whistles, t, heard) : NONE;
                if (next != NONE) {
                    count[t] = next;
                    half[t] = NONE;
                    tries[t] = 0;
                    latest = t;
                    timesOpened++;
                    return t;
                }
            }
            timesShut++;
            for (int t = 0; t < MAX_TUNES; t++) {
                if (hasEar(t)) {
                    hearInVain(whistles, t, heard);
                }
            }
            return NONE;
        }

        private void hearInVain(Whistles whistles, int tune, int heard) {
            tries[tune] = Math.min(tries[tune] + 1, MOST_TRIES);
            if (kind == PAIR) {
                half[tune] = whistles.seek(tune, count[tune] + 1, count[tune] + first, heard, 0);
            }
        }

        /** The COUNT behind opening; NONE if it stays shut. */
        private int countIfOpened(Whistles whistles, int tune, int heard) {
            int now = count[tune];
            int by = whistles.seek(tune, now, now + reach(tune), heard, kind == LIP ? second : 0);
            if (by == NONE && kind == PAIR && half[tune] != NONE) {
                by = whistles.seek(tune, half[tune] + 1, half[tune] + 1, heard, 0);
            }
            if (by != NONE) {
                return by + 1;
            }
            boolean back = kind == WINDOW && whistles.seek(tune, now - second, now - 1, heard, 0) != NONE;
            return back ? now : NONE;
        }
    }

    /** What a text tells. */
    private static final class House {
        int notes;
        int length;
        int tunes;
        int doors;
        int persons;
        int worthIn = 1;
        int worthOut = 1;
        final int[] tuneNames = new int[MAX_TUNES];
        final int[] tuneStarts = new int[MAX_TUNES];
        final int[] tuneKeeps = new int[MAX_TUNES];
        final Door[] doorRow = new Door[MAX_DOORS];
        final Person[] personRow = new Person[MAX_PERSONS];
        final Rules rules = new Rules();

        House() {
            for (int i = 0; i < MAX_DOORS; i++) {
                doorRow[i] = new Door();
            }
            for (int i = 0; i < MAX_PERSONS; i++) {
                personRow[i] = new Person();
            }
        }

        void clear() {
            notes = 0;
            length = 0;
            tunes = 0;
            doors = 0;
            persons = 0;
            worthIn = 1;
            worthOut = 1;
            rules.clear();
        }

        int tuneNamed(int name) {
            for (int i = 0; i < tunes && i < MAX_TUNES; i++) {
                if (tuneNames[i] == name) {
                    return i;
                }
            }
            return NONE;
        }

        int doorNamed(int name) {
            for (int i = 0; i < doors && i < MAX_DOORS; i++) {
                if (doorRow[i].name == name) {
                    return i;
                }
            }
            return NONE;
        }

        int personNamed(int name) {
            for (int i = 0; i < persons && i < MAX_PERSONS; i++) {
                if (personRow[i].name == name) {
                    return i;
                }
            }
            return NONE;
        }

        boolean isTaken(int name) {
            return tuneNamed(name) != NONE || doorNamed(name) != NONE || personNamed(name) != NONE;
        }
    }

    /** The SUMS and TESTS of place, note and kept, as rows of steps over a stack, and what they are about. */
    private static final class Rules {
        static final int PLACE = 0;
        static final int NOTE = 1;
        static final int KEPT = 2;
        private static final int KINDS = 3;
        private static final int ROOM = 6;

        // A step of 0 or more is that number; -1 .. -6 are the six facts below.
        static final int SUM = -1;
        static final int KEPT_NOW = -6;
        private static final int FACTS = 6;
        static final int NOT = -7;
        static final int ADD = -8;
        static final int SUBTRACT = -9;
        static final int TIMES = -10;
        static final int DIVIDE = -11;
        static final int REST = -12;
        static final int MIN = -13;
        static final int MAX = -14;
        static final int LESS = -15;
        static final int MORE = -16;
        static final int LIKE = -17;
        static final int AND = -18;
        static final int OR = -19;
        private static final long LIMIT = 1000000;

        private final int[] steps = new int[MAX_TAPE];
        private int size;
        private final int[] counts = new int[KINDS];
        private final int[] sumAt = new int[KINDS * ROOM];
        private final int[] testAt = new int[KINDS * ROOM];
        private final int[] endAt = new int[KINDS * ROOM];
        private final int[] facts = new int[FACTS];
        // Eight open brackets leave at most some thirty numbers waiting.
        private final int[] stack = new int[64];
        private int top;

        void clear() {
            size = 0;
            Arrays.fill(counts, 0);
        }

        int howMany(int kind) {
            return kind < 0 || kind >= KINDS ? 0 : counts[kind];
        }

        static int roomFor(int kind) {
            return kind == KEPT ? 4 : ROOM;
        }

        void emit(int step) {
            if (size < steps.length) {
                steps[size] = step;
                size++;
            }
        }

        private int slot(int kind) {
            return kind * ROOM + Math.min(counts[kind], ROOM - 1);
        }

        void beginSum(int kind) {
            sumAt[slot(kind)] = size;
        }

        void beginTest(int kind) {
            testAt[slot(kind)] = size;
        }

        void finish(int kind) {
            endAt[slot(kind)] = size;
            counts[kind]++;
        }

        void tell(int sum, int first, int last, int kept) {
            facts[0] = sum;
            facts[1] = first;
            facts[2] = last;
            facts[5] = kept;
        }

        void point(int old, int here) {
            facts[3] = old;
            facts[4] = here;
        }

        /** The SUM of the first rule of a kind whose TEST holds. */
        int choose(int kind, int otherwise) {
            for (int i = 0; i < counts[kind] && i < ROOM; i++) {
                int slot = kind * ROOM + i;
                if (run(testAt[slot], endAt[slot]) != 0) {
                    return run(sumAt[slot], testAt[slot]);
                }
            }
            return otherwise;
        }

        private int run(int from, int to) {
            top = 0;
            for (int i = from; i < to && i < size; i++) {
                int step = steps[i];
                if (step >= 0) {
                    push(step);
                } else if (step >= -FACTS) {
                    push(facts[-1 - step]);
                } else if (step == NOT) {
                    push(1 - pop());
                } else {
                    int right = pop();
                    push(join(step, pop(), right));
                }
            }
            return pop();
        }

        private void push(int value) {
            if (top < stack.length) {
                stack[top] = value;
                top++;
            }
        }

        private int pop() {
            if (top < 1) {
                return 0;
            }
            top--;
            return stack[top];
        }

        private static int join(int step, long left, long right) {
            long value;
            switch (step) {
                case ADD: value = left + right; break;
                case SUBTRACT: value = left - right; break;
                case TIMES: value = left * right; break;
                case DIVIDE: value = right == 0 ? 0 : Math.floorDiv(left, right); break;
                case REST: value = right == 0 ? 0 : Math.floorMod(left, right); break;
                case MIN: value = Math.min(left, right); break;
                case MAX: value = Math.max(left, right); break;
                case LESS: value = left < right ? 1 : 0; break;
                case MORE: value = left > right ? 1 : 0; break;
                case LIKE: value = left == right ? 1 : 0; break;
                case AND: value = left & right; break;
                default: value = left | right;
            }
            return (int) Math.max(-LIMIT, Math.min(LIMIT, value));
        }
    }

    /**
     * All WHISTLES of all TUNES. A tune is held with three bits a note, the first note lowest, so that
     * tunes are compared as wholes and the notes in which they differ are counted at once.
     */
    private static final class Whistles {
        private static final int BITS = 3;
        private static final int LOW_BITS = 0x1249;

        private final int[][] tunes = new int[MAX_TUNES][WHISTLES];
        private final int[][] numbers = new int[MAX_TUNES][WHISTLES];
        private final int[][] kepts = new int[MAX_TUNES][WHISTLES];
        private int notes;
        private int length;
        /** How many tunes there are: NOTES to the LENGTH. */
        int all;

        static int noteIn(int tune, int place) {
            return (tune >> (BITS * place)) & 7;
        }

        static int withNote(int tune, int place, int note) {
            return (tune & ~(7 << (BITS * place))) | (note << (BITS * place));
        }

        static int unlikeNotes(int tune, int other) {
            int unlike = tune ^ other;
            return Integer.bitCount((unlike | (unlike >> 1) | (unlike >> 2)) & LOW_BITS);
        }

        private static boolean isThere(int tune, int n) {
            return tune >= 0 && tune < MAX_TUNES && n >= 0 && n < WHISTLES;
        }

        int tuneAt(int tune, int n) {
            return isThere(tune, n) ? tunes[tune][n] : NONE;
        }

        int numberAt(int tune, int n) {
            return isThere(tune, n) ? numbers[tune][n] : NONE;
        }

        int keptAt(int tune, int n) {
            return isThere(tune, n) ? kepts[tune][n] : NONE;
        }

        void make(House house) {
            notes = house.notes;
            length = house.length;
            all = 1;
            for (int place = 0; place < length; place++) {
                all *= notes;
            }
            for (int t = 0; t < house.tunes && t < MAX_TUNES; t++) {
                put(t, 0, house.tuneStarts[t], house.tuneKeeps[t]);
                makeRow(house.rules, t);
            }
        }

        private void put(int tune, int n, int notesThen, int keptThen) {
            int number = 0;
            for (int place = 0; place < length; place++) {
                number = number * notes + noteIn(notesThen, place);
            }
            tunes[tune][n] = notesThen;
            numbers[tune][n] = number;
            kepts[tune][n] = keptThen;
        }

        /** Once a WHISTLE comes again, with what is KEPT, all further ones are copies: rules are dear to ask. */
        private void makeRow(Rules rules, int tune) {
            int watched = 0;
            for (int n = 1; n < WHISTLES; n++) {
                makeNext(rules, tune, n);
                if (isAlike(tune, watched, n)) {
                    repeatRow(tune, n, n - watched);
                    return;
                }
                if (n == 2 * watched + 1) {
                    watched = n;
                }
            }
        }

        private void repeatRow(int tune, int from, int back) {
            for (int n = Math.max(from, back); n < WHISTLES; n++) {
                tunes[tune][n] = tunes[tune][n - back];
                numbers[tune][n] = numbers[tune][n - back];
                kepts[tune][n] = kepts[tune][n - back];
            }
        }

        private void makeNext(Rules rules, int tune, int n) {
            int before = tunes[tune][n - 1];
            int kept = kepts[tune][n - 1];
            rules.tell(sumOf(before, length), noteIn(before, 0), noteIn(before, length - 1), kept);
            rules.point(0, 0);
            int place = modulo(rules.choose(Rules.PLACE, 0), length);
            int old = noteIn(before, place);
            rules.point(old, place);
            int note = modulo(rules.choose(Rules.NOTE, old + 1), notes);
            rules.point(0, 0);
            put(tune, n, withNote(before, place, note), modulo(rules.choose(Rules.KEPT, kept), KEPT_BASE));
        }

        static int sumOf(int tune, int length) {
            int sum = 0;
            for (int place = 0; place < length; place++) {
                sum += noteIn(tune, place);
            }
            return sum;
        }

        private boolean isAlike(int tune, int n, int other) {
            return tunes[tune][n] == tunes[tune][other] && kepts[tune][n] == kepts[tune][other];
        }

        /** If any WHISTLE comes again, the last one is in the ROUND, and stands one ROUND ahead of itself. */
        int roundLength(int tune) {
            if (!isThere(tune, 0)) {
                return NONE;
            }
            for (int back = 1; back < WHISTLES; back++) {
                if (isAlike(tune, WHISTLES - 1 - back, WHISTLES - 1)) {
                    return back;
                }
            }
            return NONE;
        }

        int roundStart(int tune, int back) {
            if (!isThere(tune, back)) {
                return NONE;
            }
            for (int n = 0; n + back < WHISTLES; n++) {
                if (isAlike(tune, n, n + back)) {
                    return n;
                }
            }
            return NONE;
        }

        /** The first WHISTLE of from .. to that is heard in all notes but so many. */
        int seek(int tune, int from, int to, int heard, int unlike) {
            if (!isThere(tune, 0)) {
                return NONE;
            }
            int last = Math.min(to, WHISTLES - 1);
            for (int n = Math.max(from, 0); n <= last; n++) {
                if (unlikeNotes(tunes[tune][n], heard) <= unlike) {
                    return n;
                }
            }
            return NONE;
        }
    }

    /** All ways in which somebody comes so often, with or without a WHISTLE wasted ahead of each. */
    private static final class Ways {
        private final Whistles whistles;
        private final Door[] doors = new Door[MOST_COMINGS + 1];
        private Person who;
        private int comings;
        private boolean anyMissed;

        Ways(Whistles heard) {
            whistles = heard;
            for (int i = 0; i <= MOST_COMINGS; i++) {
                doors[i] = new Door();
            }
        }

        /** The weight of those whose last COMING lets in; or (missed) of those with one that does not. */
        long weigh(Person person, Door door, int n, boolean missed) {
            who = person;
            comings = Math.min(n, MOST_COMINGS);
            anyMissed = missed;
            doors[0].copyFrom(door);
            return walk(0, person.count, WHOLE, false);
        }

        /** out: kept out in the COMING just ahead or, where any counts, in one of those ahead. */
        private long walk(int depth, int count, long weight, boolean out) {
            if (depth >= comings || depth >= MOST_COMINGS) {
                return out == anyMissed ? weight : 0;
            }
            long together = 0;
            for (int wasted = 0; wasted < 2; wasted++) {
                long share = weight * (wasted == 1 ? who.loses : 100 - who.loses) / 100;
                if (share > 0) {
                    int n = count + wasted;
                    Door door = doors[depth + 1];
                    door.copyFrom(doors[depth]);
                    boolean in = n < WHISTLES && door.hear(whistles, whistles.tuneAt(who.tune, n)) != NONE;
                    together += walk(depth + 1, Math.min(n + 1, WHISTLES), share, !in || anyMissed && out);
                }
            }
            return together;
        }
    }

    /** Questions over all tunes by number. */
    private static final class TuneSet {
        private static final int FAR = MAX_LENGTH + 1;

        private final Whistles whistles;
        private final int[] marks = new int[MAX_TUNE_NUMBERS];
        // Above all that distances and numbers of WHISTLES leave in the marks, so they need no clearing.
        private int stamp = WHISTLES;
        private final int[] window = new int[MAX_TUNES * (RESET_REACH + 1)];

        TuneSet(Whistles heard) {
            whistles = heard;
        }

        int countOpening(Door door) {
            if (door.kind == LIP) {
                return countByLip(door);
            }
            stamp++;
            int found = 0;
            for (int t = 0; t < MAX_TUNES; t++) {
                if (door.hasEar(t)) {
                    int back = door.kind == WINDOW ? door.second : 0;
                    found += stampRow(t, door.count[t] - back, door.count[t] + door.reach(t));
                    if (door.kind == PAIR && door.half[t] != NONE) {
                        found += stampRow(t, door.half[t] + 1, door.half[t] + 1);
                    }
                }
            }
            return found;
        }

        /** How many of these WHISTLES are tunes without this stamp yet. */
        private int stampRow(int tune, int from, int to) {
            int found = 0;
            int last = Math.min(to, WHISTLES - 1);
            for (int n = Math.max(from, 0); n <= last; n++) {
                int number = whistles.numberAt(tune, n);
                if (isNumber(number) && marks[number] != stamp) {
                    marks[number] = stamp;
                    found++;
                }
            }
            return found;
        }

        private boolean isNumber(int number) {
            return number >= 0 && number < MAX_TUNE_NUMBERS;
        }

        private int countByLip(Door door) {
            int all = Math.min(whistles.all, MAX_TUNE_NUMBERS);
            Arrays.fill(marks, 0, all, FAR);
            for (int t = 0; t < MAX_TUNES; t++) {
                int last = Math.min(door.count[t] + door.first, WHISTLES - 1);
                for (int n = door.count[t]; n <= last && door.hasEar(t); n++) {
                    int number = whistles.numberAt(t, n);
                    if (isNumber(number)) {
                        marks[number] = 0;
                    }
                }
            }
            int step = 1;
            for (int place = 0; place < whistles.length; place++) {
                spread(step, all);
                step *= whistles.notes;
            }
            int found = 0;
            for (int number = 0; number < all; number++) {
                if (marks[number] <= door.second) {
                    found++;
                }
            }
            return found;
        }

        /** Place by place, so that in the end each mark is in how many notes the nearest tune differs. */
        private void spread(int step, int all) {
            int block = step * whistles.notes;
            for (int high = 0; high < all && block > 0; high += block) {
                for (int low = high; low < high + step; low++) {
                    spreadLine(low, step);
                }
            }
        }

        private void spreadLine(int from, int step) {
            int least = FAR;
            for (int k = 0, at = from; k < whistles.notes && at < MAX_TUNE_NUMBERS; k++, at += step) {
                least = Math.min(least, marks[at]);
            }
            for (int k = 0, at = from; k < whistles.notes && at < MAX_TUNE_NUMBERS; k++, at += step) {
                marks[at] = Math.min(marks[at], least + 1);
            }
        }

        int leastApart(Door door) {
            int size = 0;
            for (int t = 0; t < MAX_TUNES; t++) {
                int last = Math.min(door.count[t] + door.first, WHISTLES - 1);
                for (int n = door.count[t]; n <= last && door.hasEar(t) && size < window.length; n++) {
                    window[size] = whistles.tuneAt(t, n);
                    size++;
                }
            }
            int least = FAR;
            for (int i = 1; i < size && least > 1; i++) {
                for (int k = 0; k < i; k++) {
                    int unlike = Whistles.unlikeNotes(window[i], window[k]);
                    least = unlike > 0 ? Math.min(least, unlike) : least;
                }
            }
            return least == FAR ? NONE : least;
        }

        /** Marks each tune with the first WHISTLE below so many that is it. */
        void noteFirsts(int tune, int below) {
            Arrays.fill(marks, NONE);
            for (int n = below - 1; n >= 0; n--) {
                int number = whistles.numberAt(tune, n);
                if (isNumber(number)) {
                    marks[number] = n;
                }
            }
        }

        int firstOf(int number) {
            return isNumber(number) ? marks[number] : NONE;
        }
    }

    /** The FORMS, by a, then b, then c, and which of them still FIT. */
    private static final class Forms {
        private final boolean[] fits = new boolean[MAX_LENGTH * MAX_LENGTH * (MAX_NOTES - 1)];
        private int length = 2;
        private int notes = 2;
        private int size;

        void begin(int newLength, int newNotes) {
            length = Math.max(2, Math.min(newLength, MAX_LENGTH));
            notes = Math.max(2, Math.min(newNotes, MAX_NOTES));
            size = length * length * (notes - 1);
            for (int form = 0; form < size; form++) {
                fits[form] = true;
            }
        }

        int nextBy(int form, int tune) {
            int steps = notes - 1;
            int a = form / steps / length;
            int b = form / steps % length;
            int c = form % steps + 1;
            int place = (a * Whistles.sumOf(tune, length) + b) % length;
            return Whistles.withNote(tune, place, (Whistles.noteIn(tune, place) + c) % notes);
        }

        void narrow(int tune, int next) {
            for (int form = 0; form < size; form++) {
                fits[form] = fits[form] && nextBy(form, tune) == next;
            }
        }

        int howMany() {
            int many = 0;
            for (int form = 0; form < size; form++) {
                many += fits[form] ? 1 : 0;
            }
            return many;
        }

        int firstFrom(int from) {
            for (int form = from; form < size; form++) {
                if (fits[form]) {
                    return form;
                }
            }
            return NONE;
        }

        /** Whether some FIT, and all that do make one and the same next tune. */
        boolean agree(int tune) {
            int first = firstFrom(0);
            if (first == NONE) {
                return false;
            }
            int next = nextBy(first, tune);
            for (int form = first + 1; form < size; form++) {
                if (fits[form] && nextBy(form, tune) != next) {
                    return false;
                }
            }
            return true;
        }
    }

    /** A text as WORDS, NUMBERS and signs; it ends with END, or with BAD at a byte that no text has there. */
    private static final class Tokens {
        static final int END = 0;
        static final int BAD = 1;
        static final int SIGN = 2;
        static final int NUMBER = 3;
        static final int OWN = 4;
        static final int NAME = 5;
        static final int LETTER_BITS = 5;
        static final int MOST_LETTERS = 6;
        private static final int MOST_DIGITS = 4;

        static final int W_NOTES = 0;
        static final int W_LONG = 1;
        static final int W_TUNE = 2;
        static final int W_KEEP = 3;
        static final int W_PLACE = 4;
        static final int W_NOTE = 5;
        static final int W_KEPT = 6;
        static final int W_DOOR = 7;
        static final int W_STRICT = 8;
        static final int W_RESET = 12;
        static final int W_PERSON = 13;
        static final int W_LOSES = 14;
        static final int W_ERRS = 15;
        static final int W_WORTH = 16;
        static final int W_WHEN = 17;
        static final int W_OR = 18;
        static final int W_AND = 19;
        static final int W_NOT = 20;
        static final int W_ALL = 21;
        static final int W_SUM = 22;
        static final int W_HERE = 26;
        static final int W_MIN = 27;
        static final int W_MAX = 28;
        private static final int OWN_WORDS = 29;
        private static final String OWN_TEXT =
            "notes long tune keep place note kept door strict window pair lip reset person loses errs worth when or and not all sum first last old here min max ";

        private final int[] kinds = new int[MAX_TAPE + 1];
        private final int[] places = new int[MAX_TAPE + 1];
        private final int[] values = new int[MAX_TAPE + 1];
        private int size;
        private final int[] ownWords = new int[OWN_WORDS];
        private int behindLast;

        Tokens() {
            int word = 0;
            int which = 0;
            for (int i = 0; i < OWN_TEXT.length() && which < OWN_WORDS; i++) {
                char sign = OWN_TEXT.charAt(i);
                if (sign == ' ') {
                    ownWords[which] = word;
                    which++;
                    word = 0;
                } else {
                    word = withLetter(word, sign);
                }
            }
        }

        private static int withLetter(int word, int letter) {
            return (word << LETTER_BITS) + letter - ('a' - 1);
        }

        private static boolean isLetter(int sign) {
            return sign >= 'a' && sign <= 'z';
        }

        private static boolean isDigit(int sign) {
            return sign >= '0' && sign <= '9';
        }

        void split(int[] tape, int taped) {
            int length = Math.min(taped, tape.length);
            size = 0;
            behindLast = NONE;
            int place = 0;
            for (int i = 0; i < MAX_TAPE && place >= 0 && place < length; i++) {
                place = splitOne(tape, length, place);
            }
            if (place != NONE) {
                add(END, length, 0);
            }
        }

        /** The place behind what stands here; NONE behind what is BAD. */
        private int splitOne(int[] tape, int length, int place) {
            int sign = tape[place];
            if (sign == 10 || sign == 32) {
                return place + 1;
            }
            if (!isLetter(sign) && !isDigit(sign)) {
                add(SIGN, place, sign);
                return place + 1;
            }
            if (place == behindLast) {
                return add(BAD, place, 0);
            }
            behindLast = isLetter(sign) ? splitWord(tape, length, place) : splitNumber(tape, length, place);
            return behindLast;
        }

        private int splitWord(int[] tape, int length, int place) {
            int word = 0;
            int end = place;
            for (; end < length && isLetter(tape[end]); end++) {
                if (end == place + MOST_LETTERS) {
                    return add(BAD, end, 0);
                }
                word = withLetter(word, tape[end]);
            }
            int own = NONE;
            for (int i = 0; i < OWN_WORDS && own == NONE; i++) {
                own = ownWords[i] == word ? i : NONE;
            }
            add(own == NONE ? NAME : OWN, place, own == NONE ? word : own);
            return end;
        }

        private int splitNumber(int[] tape, int length, int place) {
            int number = 0;
            int end = place;
            for (; end < length && isDigit(tape[end]); end++) {
                if (end == place + MOST_DIGITS) {
                    return add(BAD, end, 0);
                }
                number = 10 * number + tape[end] - '0';
            }
            add(NUMBER, place, number);
            return end;
        }

        private int add(int kind, int place, int value) {
            if (size < kinds.length) {
                kinds[size] = kind;
                places[size] = place;
                values[size] = value;
                size++;
            }
            return NONE;
        }
    }

    /** Reads THE HOUSE; the first FAULT that it meets is the first along the text. */
    private static final class Reader {
        private static final int MOST_OPEN = 8;

        private final Tokens tokens;
        private House house;
        private int next;
        private int kind;
        private int value;
        private int open;
        /** The NUMBER or NAME that was read latest. */
        private int got;
        int fault;
        int faultPlace = NONE;

        Reader(Tokens text) {
            tokens = text;
        }

        /** How many STATEMENTS; NONE with a FAULT. */
        int read(House into) {
            house = into;
            house.clear();
            next = NONE;
            advance();
            open = 0;
            fault = 0;
            faultPlace = NONE;
            boolean good = readHead();
            int statements = 1;
            while (good && statements <= MAX_TAPE && kind != Tokens.END) {
                good = readStatement();
                statements++;
            }
            return good ? statements : NONE;
        }

        private void advance() {
            next++;
            boolean there = next < tokens.size && next < tokens.kinds.length;
            kind = there ? tokens.kinds[next] : Tokens.END;
            value = there ? tokens.values[next] : 0;
        }

        private boolean fail(int what) {
            fault = what;
            faultPlace = next < tokens.size && next < tokens.places.length ? tokens.places[next] : 0;
            return false;
        }

        private boolean seesSign(int sign) {
            return kind == Tokens.SIGN && value == sign;
        }

        private boolean seesWord(int word) {
            return kind == Tokens.OWN && value == word;
        }

        private boolean readSign(int sign) {
            if (!seesSign(sign)) {
                return fail(1);
            }
            advance();
            return true;
        }

        private boolean readWord(int word) {
            if (!seesWord(word)) {
                return fail(1);
            }
            advance();
            return true;
        }

        private boolean readNumber(int least, int most) {
            if (kind != Tokens.NUMBER) {
                return fail(1);
            }
            got = value;
            if (got < least || got > most) {
                return fail(4);
            }
            advance();
            return true;
        }

        private boolean readNewName() {
            if (kind != Tokens.NAME) {
                return fail(1);
            }
            got = value;
            if (house.isTaken(got)) {
                return fail(2);
            }
            advance();
            return true;
        }

        private boolean readKnownName(boolean ofDoor) {
            if (kind != Tokens.NAME) {
                return fail(1);
            }
            got = ofDoor ? house.doorNamed(value) : house.tuneNamed(value);
            if (got == NONE) {
                return fail(3);
            }
            advance();
            return true;
        }

        private boolean readHead() {
            if (!readWord(Tokens.W_NOTES) || !readNumber(2, MAX_NOTES)) {
                return false;
            }
            house.notes = got;
            if (!readWord(Tokens.W_LONG) || !readNumber(2, MAX_LENGTH)) {
                return false;
            }
            house.length = got;
            return readSign(';');
        }

        private boolean readStatement() {
            if (kind != Tokens.OWN) {
                return fail(1);
            }
            boolean good;
            switch (value) {
                case Tokens.W_TUNE: good = readTune(); break;
                case Tokens.W_PLACE: good = readRule(Rules.PLACE); break;
                case Tokens.W_NOTE: good = readRule(Rules.NOTE); break;
                case Tokens.W_KEPT: good = readRule(Rules.KEPT); break;
                case Tokens.W_DOOR: good = readDoor(); break;
                case Tokens.W_PERSON: good = readPerson(); break;
                case Tokens.W_WORTH: good = readWorth(); break;
                default: good = fail(1);
            }
            return good && readSign(';');
        }

        private boolean readTune() {
            int which = house.tunes;
            if (which >= MAX_TUNES) {
                return fail(5);
            }
            advance();
            if (!readNewName()) {
                return false;
            }
            house.tuneNames[which] = got;
            int tune = 0;
            for (int place = 0; place < house.length; place++) {
                if (!readNumber(0, house.notes - 1)) {
                    return false;
                }
                tune = Whistles.withNote(tune, place, got);
            }
            if (!readWord(Tokens.W_KEEP) || !readNumber(0, KEPT_BASE - 1)) {
                return false;
            }
            house.tuneStarts[which] = tune;
            house.tuneKeeps[which] = got;
            house.tunes++;
            return true;
        }

        private boolean readDoor() {
            if (house.doors >= MAX_DOORS) {
                return fail(5);
            }
            advance();
            if (!readNewName()) {
                return false;
            }
            Door door = house.doorRow[house.doors];
            door.begin(got);
            house.doors++;
            if (kind != Tokens.OWN || value < Tokens.W_STRICT || value > Tokens.W_RESET) {
                return fail(1);
            }
            door.kind = value - Tokens.W_STRICT;
            advance();
            return door.kind == STRICT || readKindNumbers(door);
        }

        private boolean readKindNumbers(Door door) {
            if (!readNumber(door.kind == PAIR ? 1 : 0, 40)) {
                return false;
            }
            door.first = got;
            boolean good;
            switch (door.kind) {
                case WINDOW: good = readNumber(0, 9); break;
                case LIP: good = readNumber(0, 4); break;
                case RESET: good = readNumber(1, 9); break;
                default: return true;
            }
            door.second = got;
            return good;
        }

        private boolean readPerson() {
            if (house.persons >= MAX_PERSONS) {
                return fail(5);
            }
            advance();
            if (!readNewName()) {
                return false;
            }
            Person who = house.personRow[house.persons];
            who.begin(got);
            if (!readWord(Tokens.W_DOOR) || !readKnownName(true)) {
                return false;
            }
            who.door = got;
            if (!readWord(Tokens.W_TUNE) || !readKnownName(false)) {
                return false;
            }
            who.tune = got;
            house.doorRow[who.door].tunes |= 1 << who.tune;
            if (!readWord(Tokens.W_LOSES) || !readNumber(0, 100)) {
                return false;
            }
            who.loses = got;
            if (!readWord(Tokens.W_ERRS) || !readNumber(0, 100)) {
                return false;
            }
            who.errs = got;
            house.persons++;
            return true;
        }

        private boolean readWorth() {
            advance();
            if (!readNumber(0, 9999)) {
                return false;
            }
            house.worthIn = got;
            if (!readNumber(0, 9999)) {
                return false;
            }
            house.worthOut = got;
            return true;
        }

        private boolean readRule(int of) {
            if (house.rules.howMany(of) >= Rules.roomFor(of)) {
                return fail(5);
            }
            advance();
            house.rules.beginSum(of);
            if (!readSum() || !readWord(Tokens.W_WHEN)) {
                return false;
            }
            house.rules.beginTest(of);
            if (!readTest()) {
                return false;
            }
            house.rules.finish(of);
            return true;
        }

        private boolean openBracket(int sign) {
            if (!seesSign(sign)) {
                return fail(1);
            }
            if (open >= MOST_OPEN) {
                return fail(5);
            }
            open++;
            advance();
            return true;
        }

        private boolean closeBracket(int sign) {
            if (!seesSign(sign)) {
                return fail(1);
            }
            open--;
            advance();
            return true;
        }

        private boolean readTest() {
            boolean good = readBoth();
            for (int i = 0; i < MAX_TAPE && good && seesWord(Tokens.W_OR); i++) {
                advance();
                good = readBoth();
                house.rules.emit(Rules.OR);
            }
            return good;
        }

        private boolean readBoth() {
            boolean good = readFact();
            for (int i = 0; i < MAX_TAPE && good && seesWord(Tokens.W_AND); i++) {
                advance();
                good = readFact();
                house.rules.emit(Rules.AND);
            }
            return good;
        }

        /** A row of not is counted instead of read deeper: a text may hold hundreds. */
        private boolean readFact() {
            boolean not = false;
            for (int i = 0; i < MAX_TAPE && seesWord(Tokens.W_NOT); i++) {
                advance();
                not = !not;
            }
            boolean good = true;
            if (seesSign('[')) {
                good = openBracket('[') && readTest() && closeBracket(']');
            } else if (seesWord(Tokens.W_ALL)) {
                advance();
                house.rules.emit(1);
            } else {
                good = readSum();
                int step = good ? takeComparison() : NONE;
                good = step != NONE && readSum();
                house.rules.emit(step);
            }
            if (not) {
                house.rules.emit(Rules.NOT);
            }
            return good;
        }

        /** Which SIGN stands here, as a step; NONE with a FAULT. */
        private int takeComparison() {
            int step;
            if (seesSign('<')) {
                step = Rules.LESS;
            } else if (seesSign('>')) {
                step = Rules.MORE;
            } else if (seesSign('=')) {
                step = Rules.LIKE;
            } else {
                fail(1);
                return NONE;
            }
            advance();
            return step;
        }

        private boolean readSum() {
            boolean good = readProduct();
            for (int i = 0; i < MAX_TAPE && good && (seesSign('+') || seesSign('-')); i++) {
                int step = seesSign('+') ? Rules.ADD : Rules.SUBTRACT;
                advance();
                good = readProduct();
                house.rules.emit(step);
            }
            return good;
        }

        private boolean readProduct() {
            boolean good = readPart();
            for (int i = 0; i < MAX_TAPE && good && (seesSign('*') || seesSign('/') || seesSign('%')); i++) {
                int step = seesSign('*') ? Rules.TIMES : seesSign('/') ? Rules.DIVIDE : Rules.REST;
                advance();
                good = readPart();
                house.rules.emit(step);
            }
            return good;
        }

        private boolean readPart() {
            if (kind == Tokens.SIGN) {
                return openBracket('(') && readSum() && closeBracket(')');
            }
            if (kind == Tokens.NUMBER) {
                house.rules.emit(value);
            } else if (kind == Tokens.OWN && value >= Tokens.W_SUM && value <= Tokens.W_HERE) {
                house.rules.emit(Rules.SUM - (value - Tokens.W_SUM));
            } else if (seesWord(Tokens.W_KEPT)) {
                house.rules.emit(Rules.KEPT_NOW);
            } else if (seesWord(Tokens.W_MIN) || seesWord(Tokens.W_MAX)) {
                int step = seesWord(Tokens.W_MIN) ? Rules.MIN : Rules.MAX;
                advance();
                return readPairOfSums(step);
            } else {
                return fail(1);
            }
            advance();
            return true;
        }

        private boolean readPairOfSums(int step) {
            boolean good = openBracket('(') && readSum() && readSign(',') && readSum() && closeBracket(')');
            house.rules.emit(step);
            return good;
        }
    }
}
