import java.util.ArrayList;
import java.util.Arrays;
import java.util.HashMap;
import java.util.List;
import java.util.Map;
import java.util.Set;
import java.util.TreeSet;
import java.util.function.ToLongFunction;

/**
 * The document told a second time, as plainly as can be and without a thought of speed, to hold TuneDoor
 * against. It shares no code with it: texts are read with exceptions, rules are functions, ways are numbers
 * whose bits say what is wasted, strangers try every tune there is.
 */
final class PlainModel {
    private static final Set<String> OWN = Set.of("notes", "long", "tune", "keep", "place", "note", "kept", "door",
        "strict", "window", "pair", "lip", "reset", "person", "loses", "errs", "worth", "when", "or", "and", "not",
        "all", "sum", "first", "last", "old", "here", "min", "max");
    private static final List<String> KINDS = List.of("strict", "window", "pair", "lip", "reset");

    static final class Fault extends RuntimeException {
        private static final long serialVersionUID = 1;
        final int what;
        final int place;

        Fault(int what, int place) {
            this.what = what;
            this.place = place;
        }
    }

    /** What a rule sees. */
    record View(int[] tune, int kept, int old, int here) { }

    record Rule(ToLongFunction<View> sum, ToLongFunction<View> test) { }

    record Whistle(List<Integer> notes, int kept) { }

    static final class Ear {
        int count;
        int half = -1;
        int tries;

        Ear copy() {
            Ear ear = new Ear();
            ear.count = count;
            ear.half = half;
            ear.tries = tries;
            return ear;
        }
    }

    static final class Gate {
        String name;
        int kind;
        int first;
        int second;
        Map<Integer, Ear> ears = new java.util.TreeMap<>();
        int latest = -1;
        int opened;
        int shut;

        Gate copy() {
            Gate gate = new Gate();
            gate.kind = kind;
            gate.first = first;
            gate.second = second;
            ears.forEach((tune, ear) -> gate.ears.put(tune, ear.copy()));
            return gate;
        }
    }

    static final class Guest {
        String name;
        int door;
        int tune;
        int loses;
        int errs;
        int count;
        int in;
        int out;
    }

    static final class Home {
        int notes;
        int length;
        int statements;
        int[] worth = {1, 1};
        List<String> tuneNames = new ArrayList<>();
        List<List<Whistle>> tunes = new ArrayList<>();
        List<Gate> doors = new ArrayList<>();
        List<Guest> persons = new ArrayList<>();
        Map<String, List<Rule>> rules = new HashMap<>(Map.of(
            "place", new ArrayList<>(), "note", new ArrayList<>(), "kept", new ArrayList<>()));
    }

    private byte[] tape = {};
    private Home home = new Home();
    private int fault;
    private int faultPlace = -1;
    private long seed = 1;
    private byte[] image = {};
    private final int[] refused = new int[6];

    // ---- reading

    private static final class Text {
        final String text;
        final Home home = new Home();
        int at;
        int open;
        String token;
        int start;

        Text(String text) {
            this.text = text;
        }

        boolean is(int place, char from, char to) {
            return place < text.length() && text.charAt(place) >= from && text.charAt(place) <= to;
        }

        /** The token that stands next; "" at the end. */
        String look() {
            int place = at;
            while (place < text.length() && (text.charAt(place) == ' ' || text.charAt(place) == '\n')) {
                place++;
            }
            start = place;
            boolean letters = is(place, 'a', 'z');
            boolean digits = is(place, '0', '9');
            boolean glued = place == at && place > 0 && (is(place - 1, 'a', 'z') || is(place - 1, '0', '9'));
            if ((letters || digits) && glued) {
                throw new Fault(1, place);
            }
            int end = place;
            while (letters && is(end, 'a', 'z') || digits && is(end, '0', '9')) {
                end++;
                if (end - place > (letters ? 6 : 4)) {
                    throw new Fault(1, end - 1);
                }
            }
            if (end == place && place < text.length()) {
                end++;
            }
            token = text.substring(place, end);
            return token;
        }

        void take() {
            look();
            at = start + token.length();
        }

        boolean sees(String... any) {
            return List.of(any).contains(look());
        }

        void must(String one) {
            if (!sees(one)) {
                throw new Fault(1, start);
            }
            take();
        }

        int number(int least, int most) {
            if (look().isEmpty() || !is(start, '0', '9')) {
                throw new Fault(1, start);
            }
            int value = Integer.parseInt(token);
            if (value < least || value > most) {
                throw new Fault(4, start);
            }
            take();
            return value;
        }

        String name() {
            if (look().isEmpty() || !is(start, 'a', 'z') || OWN.contains(token)) {
                throw new Fault(1, start);
            }
            return token;
        }

        String newName() {
            String name = name();
            boolean there = home.tuneNames.contains(name) || home.doors.stream().anyMatch(d -> d.name.equals(name))
                || home.persons.stream().anyMatch(p -> p.name.equals(name));
            if (there) {
                throw new Fault(2, start);
            }
            take();
            return name;
        }

        int known(List<String> names) {
            int which = names.indexOf(name());
            if (which < 0) {
                throw new Fault(3, start);
            }
            take();
            return which;
        }

        void room(int there, int most) {
            if (there >= most) {
                throw new Fault(5, start);
            }
            take();
        }

        Home read() {
            must("notes");
            home.notes = number(2, 6);
            must("long");
            home.length = number(2, 5);
            must(";");
            home.statements = 1;
            while (!look().isEmpty()) {
                statement();
                must(";");
                home.statements++;
            }
            return home;
        }

        void statement() {
            String word = token;
            switch (word) {
                case "tune" -> tune();
                case "place", "note", "kept" -> rule(word);
                case "door" -> door();
                case "person" -> person();
                case "worth" -> {
                    take();
                    home.worth = new int[] {number(0, 9999), number(0, 9999)};
                }
                default -> throw new Fault(1, start);
            }
        }

        void tune() {
            room(home.tunes.size(), 3);
            home.tuneNames.add(newName());
            List<Integer> notes = new ArrayList<>();
            for (int i = 0; i < home.length; i++) {
                notes.add(number(0, home.notes - 1));
            }
            must("keep");
            home.tunes.add(new ArrayList<>(List.of(new Whistle(notes, number(0, 99)))));
        }

        void rule(String kind) {
            room(home.rules.get(kind).size(), kind.equals("kept") ? 4 : 6);
            ToLongFunction<View> sum = sum();
            must("when");
            home.rules.get(kind).add(new Rule(sum, test()));
        }

        void door() {
            room(home.doors.size(), 4);
            Gate gate = new Gate();
            gate.name = newName();
            gate.kind = KINDS.indexOf(look());
            if (gate.kind < 0) {
                throw new Fault(1, start);
            }
            take();
            int[][] first = {null, {0, 40}, {1, 40}, {0, 40}, {0, 40}};
            int[][] second = {null, {0, 9}, null, {0, 4}, {1, 9}};
            gate.first = first[gate.kind] == null ? 0 : number(first[gate.kind][0], first[gate.kind][1]);
            gate.second = second[gate.kind] == null ? 0 : number(second[gate.kind][0], second[gate.kind][1]);
            home.doors.add(gate);
        }

        void person() {
            room(home.persons.size(), 4);
            Guest guest = new Guest();
            guest.name = newName();
            must("door");
            guest.door = known(home.doors.stream().map(d -> d.name).toList());
            must("tune");
            guest.tune = known(home.tuneNames);
            must("loses");
            guest.loses = number(0, 100);
            must("errs");
            guest.errs = number(0, 100);
            home.doors.get(guest.door).ears.putIfAbsent(guest.tune, new Ear());
            home.persons.add(guest);
        }

        ToLongFunction<View> test() {
            ToLongFunction<View> left = both();
            while (sees("or")) {
                take();
                ToLongFunction<View> a = left;
                ToLongFunction<View> b = both();
                left = v -> a.applyAsLong(v) + b.applyAsLong(v) > 0 ? 1 : 0;
            }
            return left;
        }

        ToLongFunction<View> both() {
            ToLongFunction<View> left = fact();
            while (sees("and")) {
                take();
                ToLongFunction<View> a = left;
                ToLongFunction<View> b = fact();
                left = v -> a.applyAsLong(v) * b.applyAsLong(v);
            }
            return left;
        }

        ToLongFunction<View> fact() {
            if (sees("not")) {
                take();
                ToLongFunction<View> a = fact();
                return v -> a.applyAsLong(v) == 0 ? 1 : 0;
            }
            if (sees("[")) {
                opened();
                ToLongFunction<View> a = test();
                closed("]");
                return a;
            }
            if (sees("all")) {
                take();
                return v -> 1;
            }
            ToLongFunction<View> a = sum();
            if (!sees("<", ">", "=")) {
                throw new Fault(1, start);
            }
            String sign = token;
            take();
            ToLongFunction<View> b = sum();
            return v -> {
                int how = Long.compare(a.applyAsLong(v), b.applyAsLong(v));
                return sign.equals("<") && how < 0 || sign.equals(">") && how > 0 || sign.equals("=") && how == 0 ? 1 : 0;
            };
        }

        void opened() {
            if (open == 8) {
                throw new Fault(5, start);
            }
            open++;
            take();
        }

        void closed(String sign) {
            must(sign);
            open--;
        }

        static long limit(long value) {
            return value > 1000000 ? 1000000 : value < -1000000 ? -1000000 : value;
        }

        ToLongFunction<View> sum() {
            ToLongFunction<View> left = product();
            while (sees("+", "-")) {
                int sign = token.equals("+") ? 1 : -1;
                take();
                ToLongFunction<View> a = left;
                ToLongFunction<View> b = product();
                left = v -> limit(a.applyAsLong(v) + sign * b.applyAsLong(v));
            }
            return left;
        }

        ToLongFunction<View> product() {
            ToLongFunction<View> left = part();
            while (sees("*", "/", "%")) {
                String sign = token;
                take();
                ToLongFunction<View> a = left;
                ToLongFunction<View> b = part();
                left = v -> {
                    long x = a.applyAsLong(v);
                    long y = b.applyAsLong(v);
                    if (sign.equals("*")) {
                        return limit(x * y);
                    }
                    if (y == 0) {
                        return 0;
                    }
                    long whole = (long) Math.floor((double) x / y);
                    return sign.equals("/") ? whole : x - whole * y;
                };
            }
            return left;
        }

        ToLongFunction<View> part() {
            String word = look();
            if (is(start, '0', '9')) {
                int value = Integer.parseInt(word);
                take();
                return v -> value;
            }
            if (word.equals("(")) {
                opened();
                ToLongFunction<View> a = sum();
                closed(")");
                return a;
            }
            if (word.equals("min") || word.equals("max")) {
                take();
                if (!sees("(")) {
                    throw new Fault(1, start);
                }
                opened();
                ToLongFunction<View> a = sum();
                must(",");
                ToLongFunction<View> b = sum();
                closed(")");
                return word.equals("min") ? v -> Math.min(a.applyAsLong(v), b.applyAsLong(v))
                    : v -> Math.max(a.applyAsLong(v), b.applyAsLong(v));
            }
            ToLongFunction<View> value = switch (word) {
                case "sum" -> v -> Arrays.stream(v.tune).sum();
                case "first" -> v -> v.tune[0];
                case "last" -> v -> v.tune[v.tune.length - 1];
                case "old" -> View::old;
                case "here" -> View::here;
                case "kept" -> View::kept;
                default -> throw new Fault(1, start);
            };
            take();
            return value;
        }
    }

    private static void whistleAll(Home home) {
        for (List<Whistle> row : home.tunes) {
            while (row.size() < 1000) {
                Whistle before = row.get(row.size() - 1);
                int[] tune = before.notes.stream().mapToInt(n -> n).toArray();
                View plain = new View(tune, before.kept, 0, 0);
                int place = (int) Math.floorMod(chosen(home, "place", plain, 0), (long) home.length);
                View there = new View(tune, before.kept, tune[place], place);
                int note = (int) Math.floorMod(chosen(home, "note", there, tune[place] + 1), (long) home.notes);
                int kept = (int) Math.floorMod(chosen(home, "kept", plain, before.kept), 100L);
                List<Integer> next = new ArrayList<>(before.notes);
                next.set(place, note);
                row.add(new Whistle(next, kept));
            }
        }
    }

    private static long chosen(Home home, String kind, View view, long otherwise) {
        for (Rule rule : home.rules.get(kind)) {
            if (rule.test.applyAsLong(view) != 0) {
                return rule.sum.applyAsLong(view);
            }
        }
        return otherwise;
    }

    // ---- the tape and the house

    int feed(int a, int b, int c, int d, int e) {
        if (tape.length + 20 > 1600) {
            refused[0]++;
            return -1;
        }
        java.nio.ByteBuffer more = java.nio.ByteBuffer.allocate(tape.length + 20);
        more.put(tape).putInt(a).putInt(b).putInt(c).putInt(d).putInt(e);
        tape = more.array();
        return tape.length;
    }

    boolean end(int n) {
        if (n < 0 || n > tape.length) {
            refused[0]++;
            return false;
        }
        tape = Arrays.copyOf(tape, n);
        return true;
    }

    private byte[] take() {
        byte[] all = tape;
        tape = new byte[0];
        return all;
    }

    int house() {
        try {
            Home told = new Text(new String(take(), java.nio.charset.StandardCharsets.ISO_8859_1)).read();
            whistleAll(told);
            home = told;
            fault = 0;
            faultPlace = -1;
            return told.statements;
        } catch (Fault found) {
            fault = found.what;
            faultPlace = found.place;
            refused[1]++;
            return -1;
        }
    }

    int fault(int what) {
        return what == 0 ? fault : what == 1 ? faultPlace : -1;
    }

    int has(int what) {
        int[] all = {home.notes, home.length, home.tunes.size(), home.doors.size(), home.persons.size(),
            home.rules.get("place").size(), home.rules.get("note").size(), home.rules.get("kept").size(),
            home.worth[0], home.worth[1]};
        return pick(all, what);
    }

    private static int pick(int[] all, int which) {
        return which < 0 || which >= all.length ? -1 : all[which];
    }

    private static <T> T of(List<T> all, int which) {
        return which < 0 || which >= all.size() ? null : all.get(which);
    }

    int letter(int kind, int which, int k) {
        List<String> names = kind == 0 ? home.tuneNames : kind == 1 ? home.doors.stream().map(d -> d.name).toList()
            : kind == 2 ? home.persons.stream().map(p -> p.name).toList() : List.of();
        String name = of(names, which);
        return name == null || k < 0 || k >= name.length() ? -1 : name.charAt(k);
    }

    int door(int door, int what) {
        Gate gate = of(home.doors, door);
        if (gate == null) {
            return -1;
        }
        int bits = gate.ears.keySet().stream().mapToInt(t -> 1 << t).sum();
        return pick(new int[] {gate.kind, gate.first, gate.second, bits}, what);
    }

    int person(int person, int what) {
        Guest p = of(home.persons, person);
        return p == null ? -1 : pick(new int[] {p.door, p.tune, p.count, p.loses, p.errs, p.in, p.out}, what);
    }

    // ---- tunes

    private Whistle whistle(int tune, int n) {
        List<Whistle> row = of(home.tunes, tune);
        return row == null ? null : of(row, n);
    }

    private int number(List<Integer> notes) {
        int number = 0;
        for (int note : notes) {
            number = number * home.notes + note;
        }
        return number;
    }

    int note(int tune, int n, int place) {
        Whistle w = whistle(tune, n);
        if (w == null || place < -2 || place >= home.length) {
            return -1;
        }
        return place == -1 ? number(w.notes) : place == -2 ? w.kept : w.notes.get(place);
    }

    int round(int tune, int what) {
        List<Whistle> row = of(home.tunes, tune);
        if (row == null || what < 0 || what > 1) {
            return -1;
        }
        Map<Whistle, Integer> seen = new HashMap<>();
        for (int n = 0; n < 1000; n++) {
            Integer first = seen.putIfAbsent(row.get(n), n);
            if (first != null) {
                return what == 0 ? first : n - first;
            }
        }
        return -1;
    }

    int find(int tune, int n, int number) {
        for (int i = n; i >= 0 && i < 1000; i++) {
            Whistle w = whistle(tune, i);
            if (w != null && number(w.notes) == number) {
                return i;
            }
        }
        return -1;
    }

    // ---- at the door

    private static int unlike(List<Integer> a, List<Integer> b) {
        int unlike = 0;
        for (int i = 0; i < a.size(); i++) {
            unlike += a.get(i).equals(b.get(i)) ? 0 : 1;
        }
        return unlike;
    }

    private boolean isWhistle(int tune, int n, List<Integer> heard) {
        Whistle w = whistle(tune, n);
        return w != null && w.notes.equals(heard);
    }

    /** {new COUNT}, or null if it stays shut. */
    private int[] opens(Gate gate, int tune, List<Integer> heard) {
        Ear ear = gate.ears.get(tune);
        int c = ear.count;
        switch (gate.kind) {
            case 0:
                return isWhistle(tune, c, heard) ? new int[] {c + 1} : null;
            case 1:
                for (int d = 0; d <= gate.first; d++) {
                    if (isWhistle(tune, c + d, heard)) {
                        return new int[] {c + d + 1};
                    }
                }
                for (int d = 1; d <= gate.second; d++) {
                    if (isWhistle(tune, c - d, heard)) {
                        return new int[] {c};
                    }
                }
                return null;
            case 2:
                if (isWhistle(tune, c, heard)) {
                    return new int[] {c + 1};
                }
                return ear.half >= 0 && isWhistle(tune, ear.half + 1, heard) ? new int[] {ear.half + 2} : null;
            case 3:
                for (int d = 0; d <= gate.first; d++) {
                    Whistle w = whistle(tune, c + d);
                    if (w != null && unlike(w.notes, heard) <= gate.second) {
                        return new int[] {c + d + 1};
                    }
                }
                return null;
            default:
                for (int d = 0; d <= (ear.tries < gate.second ? gate.first : 40); d++) {
                    if (isWhistle(tune, c + d, heard)) {
                        return new int[] {c + d + 1};
                    }
                }
                return null;
        }
    }

    private int hears(Gate gate, List<Integer> heard) {
        for (int tune : gate.ears.keySet()) {
            int[] count = opens(gate, tune, heard);
            if (count != null) {
                Ear ear = gate.ears.get(tune);
                ear.count = count[0];
                ear.half = -1;
                ear.tries = 0;
                gate.latest = tune;
                gate.opened++;
                return tune;
            }
        }
        gate.ears.forEach((tune, ear) -> {
            ear.tries = Math.min(255, ear.tries + 1);
            if (gate.kind == 2) {
                ear.half = -1;
                for (int d = gate.first; d >= 1; d--) {
                    ear.half = isWhistle(tune, ear.count + d, heard) ? ear.count + d : ear.half;
                }
            }
        });
        gate.shut++;
        return -1;
    }

    int ear(int door, int tune, int what) {
        Gate gate = of(home.doors, door);
        Ear ear = gate == null ? null : gate.ears.get(tune);
        return ear == null ? -1 : pick(new int[] {ear.count, ear.half, ear.tries}, what);
    }

    private int comes(Guest p, List<Integer> heard) {
        int by = hears(home.doors.get(p.door), heard);
        p.count++;
        p.in += by >= 0 ? 1 : 0;
        p.out += by < 0 ? 1 : 0;
        return by;
    }

    private int refuse(int which, int answer) {
        refused[which]++;
        return answer;
    }

    int come(int person) {
        Guest p = of(home.persons, person);
        return p == null || p.count > 999 ? refuse(2, -2) : comes(p, whistle(p.tune, p.count).notes);
    }

    int slip(int person, int place, int note) {
        Guest p = of(home.persons, person);
        if (p == null || p.count > 999 || place < 0 || place >= home.length || note < 0 || note >= home.notes
            || whistle(p.tune, p.count).notes.get(place) == note) {
            return refuse(2, -2);
        }
        List<Integer> heard = new ArrayList<>(whistle(p.tune, p.count).notes);
        heard.set(place, note);
        return comes(p, heard);
    }

    int waste(int person, int n) {
        Guest p = of(home.persons, person);
        if (p == null || n < 1 || n > 99 || p.count + n > 1000) {
            return refuse(2, -1);
        }
        p.count += n;
        return p.count;
    }

    int listen(int door) {
        byte[] bytes = take();
        Gate gate = of(home.doors, door);
        List<Integer> heard = new ArrayList<>();
        for (byte b : bytes) {
            heard.add(b & 255);
        }
        if (gate == null || heard.size() != home.length || heard.stream().anyMatch(n -> n >= home.notes)) {
            return refuse(2, -2);
        }
        return hears(gate, heard);
    }

    int opened(int door, int what) {
        Gate gate = of(home.doors, door);
        return gate == null ? -1 : pick(new int[] {gate.latest, gate.opened, gate.shut}, what);
    }

    int apart(int person) {
        Guest p = of(home.persons, person);
        return p == null ? -10000 : p.count - home.doors.get(p.door).ears.get(p.tune).count;
    }

    int mend(int person) {
        Guest p = of(home.persons, person);
        if (p == null) {
            return -1;
        }
        Gate gate = home.doors.get(p.door).copy();
        for (int k = 1; k <= 50 && p.count + k - 1 <= 999; k++) {
            if (hears(gate, whistle(p.tune, p.count + k - 1).notes) >= 0) {
                return k;
            }
        }
        return -1;
    }

    private boolean letsIn(Guest p, int count) {
        return count <= 999 && hears(home.doors.get(p.door).copy(), whistle(p.tune, count).notes) >= 0;
    }

    int would(int door) {
        if (of(home.doors, door) == null) {
            return -1;
        }
        int bits = 0;
        for (int i = 0; i < home.persons.size(); i++) {
            Guest p = home.persons.get(i);
            bits += p.door == door && letsIn(p, p.count) ? 1 << i : 0;
        }
        return bits;
    }

    // ---- how likely

    /** {let in by the last, kept out in some}. */
    private long[] ways(Guest p, Gate from, int n) {
        long[] both = new long[2];
        for (int way = 0; way < 1 << n; way++) {
            Gate gate = from.copy();
            int count = p.count;
            long weight = 1000000000L;
            boolean last = false;
            boolean some = false;
            for (int i = 0; i < n; i++) {
                boolean wasted = (way >> i & 1) == 1;
                weight = weight * (wasted ? p.loses : 100 - p.loses) / 100;
                count = Math.min(1000, count + (wasted ? 1 : 0));
                last = count <= 999 && hears(gate, whistle(p.tune, count).notes) >= 0;
                count = Math.min(1000, count + 1);
                some |= !last;
            }
            both[0] += last ? weight : 0;
            both[1] += some ? weight : 0;
        }
        return both;
    }

    long likely(int person, int n) {
        Guest p = of(home.persons, person);
        return p == null || n < 1 || n > 8 ? -1 : ways(p, home.doors.get(p.door), n)[0];
    }

    long lost(int person, int n) {
        Guest p = of(home.persons, person);
        return p == null || n < 1 || n > 8 ? -1 : ways(p, home.doors.get(p.door), n)[1];
    }

    int bears(int person) {
        Guest p = of(home.persons, person);
        int most = -1;
        while (p != null && most < 60 && letsIn(p, p.count + most + 1)) {
            most++;
        }
        return most;
    }

    private int all() {
        int all = 1;
        for (int i = 0; i < home.length; i++) {
            all *= home.notes;
        }
        return all;
    }

    private int opening(Gate gate) {
        int opening = 0;
        for (int number = 0; number < all(); number++) {
            List<Integer> heard = new ArrayList<>();
            for (int i = 0, rest = number; i < home.length; i++, rest /= home.notes) {
                heard.add(0, rest % home.notes);
            }
            boolean open = false;
            for (int tune : gate.ears.keySet()) {
                open |= opens(gate, tune, heard) != null;
            }
            opening += open ? 1 : 0;
        }
        return opening;
    }

    private long chance(Gate gate, int tries) {
        long m = opening(gate);
        long left = 1000000000L;
        for (int i = 0; i < tries; i++) {
            left = left * (all() - m) / all();
        }
        return 1000000000L - left;
    }

    long stranger(int door, int tries) {
        Gate gate = of(home.doors, door);
        if (gate == null || tries < -1 || tries > 500) {
            return -1;
        }
        return tries == -1 ? opening(gate) : chance(gate, tries);
    }

    int near(int door) {
        Gate gate = of(home.doors, door);
        if (gate == null) {
            return -1;
        }
        Set<Integer> apart = new TreeSet<>();
        List<List<Integer>> tunes = new ArrayList<>();
        gate.ears.forEach((tune, ear) -> {
            for (int n = ear.count; n <= Math.min(999, ear.count + gate.first); n++) {
                tunes.add(whistle(tune, n).notes);
            }
        });
        for (List<Integer> a : tunes) {
            for (List<Integer> b : tunes) {
                apart.add(unlike(a, b));
            }
        }
        apart.remove(0);
        return apart.isEmpty() ? -1 : apart.iterator().next();
    }

    private int costs(Guest p, int n, int window) {
        Gate gate = home.doors.get(p.door).copy();
        gate.kind = 1;
        gate.first = window;
        gate.second = 0;
        long in = ways(p, gate, n)[0];
        return (int) ((home.worth[0] * (1000000000L - in) + home.worth[1] * chance(gate, 1)) / 1000000000L);
    }

    int cost(int person, int n, int window, int what) {
        Guest p = of(home.persons, person);
        if (p == null || n < 1 || n > 6 || what < 0 || what > 1 || what == 0 && (window < 0 || window > 20)) {
            return -1;
        }
        if (what == 0) {
            return costs(p, n, window);
        }
        int best = 20;
        for (int a = 19; a >= 0; a--) {
            best = costs(p, n, a) <= costs(p, n, best) ? a : best;
        }
        return best;
    }

    // ---- who has heard it

    /** What the FORMS that FIT make next, by a, then b, then c; null if it can't be. */
    private List<List<Integer>> forms(int tune, int n, int k) {
        if (whistle(tune, n) == null || k < 1 || k > 30 || n + k > 1000) {
            return null;
        }
        List<List<Integer>> next = new ArrayList<>();
        for (int a = 0; a < home.length; a++) {
            for (int b = 0; b < home.length; b++) {
                for (int c = 1; c < home.notes; c++) {
                    boolean fits = true;
                    for (int i = n; i < n + k - 1; i++) {
                        fits &= made(whistle(tune, i).notes, a, b, c).equals(whistle(tune, i + 1).notes);
                    }
                    if (fits) {
                        next.add(made(whistle(tune, n + k - 1).notes, a, b, c));
                    }
                }
            }
        }
        return next;
    }

    private List<Integer> made(List<Integer> notes, int a, int b, int c) {
        int sum = notes.stream().mapToInt(note -> note).sum();
        int place = (a * sum + b) % home.length;
        List<Integer> next = new ArrayList<>(notes);
        next.set(place, (next.get(place) + c) % home.notes);
        return next;
    }

    int knows(int tune, int n, int k) {
        List<List<Integer>> next = forms(tune, n, k);
        return next == null ? -1 : next.size();
    }

    int sure(int tune, int n) {
        for (int k = 2; k <= 30; k++) {
            List<List<Integer>> next = forms(tune, n, k);
            if (next != null && next.stream().distinct().count() == 1) {
                return k;
            }
        }
        return -1;
    }

    int right(int tune, int n, int k) {
        List<List<Integer>> next = forms(tune, n, k);
        if (next == null || next.isEmpty() || n + k > 999) {
            return -1;
        }
        return next.get(0).equals(whistle(tune, n + k).notes) ? 1 : 0;
    }

    private boolean two(int tune, int other) {
        return of(home.tunes, tune) != null && of(home.tunes, other) != null && tune != other;
    }

    int same(int tune, int other, int what) {
        if (!two(tune, other) || what < 0 || what > 1) {
            return -1;
        }
        Map<List<Integer>, Integer> first = new HashMap<>();
        for (int j = 0; j <= 998; j++) {
            first.putIfAbsent(whistle(other, j).notes, j);
        }
        for (int i = 0; i <= 998; i++) {
            Integer j = first.get(whistle(tune, i).notes);
            if (j != null) {
                return what == 0 ? i : j;
            }
        }
        return -1;
    }

    int tells(int tune, int other, int n) {
        if (!two(tune, other) || n < 0) {
            return -1;
        }
        for (int k = 1; n <= 999 && n + k - 1 <= 999; k++) {
            if (!whistle(tune, n + k - 1).notes.equals(whistle(other, n + k - 1).notes)) {
                return k;
            }
        }
        return -1;
    }

    int bird(int door, int tune, int n, int mornings) {
        Gate gate = of(home.doors, door);
        if (gate == null || whistle(tune, n) == null || mornings < 1 || mornings > 100) {
            return -1;
        }
        Gate copy = gate.copy();
        int in = 0;
        for (int i = 0; i < mornings; i++) {
            in += hears(copy, whistle(tune, n).notes) >= 0 ? 1 : 0;
        }
        return in;
    }

    // ---- nights and images

    private int draw(int n) {
        seed = (1103515245L * seed + 12345) % 2147483648L;
        return (int) (seed / 64 % n);
    }

    int nights(int n) {
        if (n < 1 || n > 60 || home.persons.isEmpty()) {
            return refuse(3, -1);
        }
        int in = 0;
        for (int i = 0; i < n; i++) {
            Guest p = home.persons.get(draw(home.persons.size()));
            if (draw(100) < p.loses && p.count < 1000) {
                p.count++;
            }
            int place = -1;
            int more = 0;
            if (draw(100) < p.errs) {
                place = draw(home.length);
                more = draw(home.notes - 1) + 1;
            }
            if (p.count < 1000) {
                List<Integer> heard = new ArrayList<>(whistle(p.tune, p.count).notes);
                if (place >= 0) {
                    heard.set(place, (heard.get(place) + more) % home.notes);
                }
                in += comes(p, heard) >= 0 ? 1 : 0;
            }
        }
        return in;
    }

    boolean seed(int to) {
        if (to < 0) {
            refused[4]++;
            return false;
        }
        seed = to;
        return true;
    }

    private static int check(byte[] bytes, int size) {
        int c = 33;
        for (int i = 0; i < size; i++) {
            c = (7 * c + (bytes[i] & 255)) % 241;
        }
        return c;
    }

    private int imageSize() {
        return 2 * home.persons.size() + 5 * home.doors.size() * home.tunes.size() + 1;
    }

    int image() {
        java.nio.ByteBuffer out = java.nio.ByteBuffer.allocate(imageSize());
        home.persons.forEach(p -> out.putShort((short) p.count));
        for (Gate gate : home.doors) {
            for (int t = 0; t < home.tunes.size(); t++) {
                Ear ear = gate.ears.getOrDefault(t, new Ear());
                out.putShort((short) ear.count).putShort((short) (ear.half + 1)).put((byte) ear.tries);
            }
        }
        image = out.array();
        image[image.length - 1] = (byte) check(image, image.length - 1);
        return image.length;
    }

    int octet(int k) {
        return k < 0 || k >= image.length ? -1 : image[k] & 255;
    }

    byte[] picture() {
        return image.clone();
    }

    boolean on() {
        byte[] bytes = take();
        java.nio.ByteBuffer in = java.nio.ByteBuffer.wrap(bytes);
        boolean good = home.notes > 0 && bytes.length == imageSize()
            && check(bytes, bytes.length - 1) == (bytes[bytes.length - 1] & 255);
        List<int[]> read = new ArrayList<>();
        for (int i = 0; good && i < home.persons.size(); i++) {
            int count = in.getShort() & 0xffff;
            read.add(new int[] {count});
            good = count <= 1000;
        }
        for (int i = 0; good && i < home.doors.size() * home.tunes.size(); i++) {
            Gate gate = home.doors.get(i / home.tunes.size());
            int[] ear = {in.getShort() & 0xffff, in.getShort() & 0xffff, in.get() & 255};
            read.add(ear);
            good = gate.ears.containsKey(i % home.tunes.size()) ? ear[0] <= 1000 && ear[1] <= 1000
                && (gate.kind == 2 || ear[1] == 0) : ear[0] + ear[1] + ear[2] == 0;
        }
        if (!good) {
            refused[5]++;
            return false;
        }
        int at = 0;
        for (Guest p : home.persons) {
            p.count = read.get(at++)[0];
        }
        for (Gate gate : home.doors) {
            for (int t = 0; t < home.tunes.size(); t++) {
                int[] told = read.get(at++);
                if (gate.ears.containsKey(t)) {
                    gate.ears.get(t).count = told[0];
                    gate.ears.get(t).half = told[1] - 1;
                    gate.ears.get(t).tries = told[2];
                }
            }
        }
        return true;
    }

    int status(int what) {
        return pick(refused, what);
    }
}
