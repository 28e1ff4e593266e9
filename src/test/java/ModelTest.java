import java.nio.charset.StandardCharsets;
import java.util.Arrays;
import java.util.Random;

/** Random houses and calls, each answered by TuneDoor and by the plain model; the seeds are fixed. */
public final class ModelTest {
    private static final Check CHECK = new Check();
    private final Random random;
    private final TuneDoor door = new TuneDoor();
    private final PlainModel model = new PlainModel();
    private final StringBuilder told = new StringBuilder();
    private int calls;

    private ModelTest(long seed) {
        random = new Random(seed);
        told.append("seed ").append(seed).append(": ");
    }

    public static void main(String[] args) {
        int first = args.length > 0 ? Integer.parseInt(args[0]) : 0;
        int runs = args.length > 1 ? Integer.parseInt(args[1]) : 120;
        for (int seed = first; seed < first + runs; seed++) {
            new ModelTest(seed).run();
        }
        for (int seed = first; seed < first + 20 * runs; seed++) {
            new ModelTest(seed).spoiltTexts();
        }
        CHECK.close();
    }

    private int upTo(int most) {
        return random.nextInt(most + 1);
    }

    private boolean chance(int ofHundred) {
        return random.nextInt(100) < ofHundred;
    }

    private void due(String call, long got, long want) {
        if (got != want) {
            CHECK.due(told + call, got, want);
        } else {
            CHECK.due("", 0, 0);
        }
    }

    // ---- texts

    private String sum(int depth) {
        String[] parts = {"sum", "first", "last", "old", "here", "kept", "" + upTo(9), "" + upTo(9999)};
        int kind = depth == 0 ? 0 : upTo(7);
        String blank = chance(20) ? " " : "";
        if (kind < 3) {
            return parts[upTo(parts.length - 1)];
        }
        String left = sum(depth - 1);
        String right = sum(depth - 1);
        if (kind < 6) {
            return left + blank + "+-*/%".charAt(upTo(4)) + blank + right;
        }
        return kind == 6 ? "(" + left + blank + "-" + right + ")" : (chance(50) ? "min" : "max") + "(" + left + "," + blank + right + ")";
    }

    private String test(int depth) {
        int kind = depth == 0 ? upTo(1) : upTo(6);
        switch (kind) {
            case 0: return chance(30) ? "all" : sum(1) + "<>=".charAt(upTo(2)) + sum(1);
            case 1: return sum(1) + "<>=".charAt(upTo(2)) + sum(1);
            case 2: return "not " + test(depth - 1);
            case 3: return "[" + test(depth - 1) + "]";
            case 4: return test(depth - 1) + " and " + test(depth - 1);
            default: return test(depth - 1) + " or " + test(depth - 1);
        }
    }

    private String kind() {
        switch (upTo(4)) {
            case 0: return "strict";
            case 1: return "window " + upTo(chance(50) ? 4 : 40) + " " + upTo(9);
            case 2: return "pair " + (1 + upTo(chance(50) ? 4 : 39));
            case 3: return "lip " + upTo(chance(50) ? 4 : 40) + " " + upTo(chance(50) ? 1 : 4);
            default: return "reset " + upTo(chance(50) ? 4 : 40) + " " + (1 + upTo(chance(50) ? 2 : 8));
        }
    }

    private String goodText() {
        int notes = 2 + upTo(4);
        int length = 2 + upTo(3);
        int tunes = 1 + upTo(2);
        int doors = 1 + upTo(3);
        StringBuilder text = new StringBuilder("notes " + notes + " long " + length + ";\n");
        for (int t = 0; t < tunes; t++) {
            text.append("tune t").append((char) ('a' + t));
            int like = upTo(notes - 1);
            for (int i = 0; i < length; i++) {
                text.append(' ').append(chance(60) ? like : upTo(notes - 1));
            }
            text.append(" keep ").append(chance(50) ? upTo(99) : upTo(2)).append(";");
        }
        int simple = upTo(3);
        if (simple == 3) {
            // Rules that stir well, for long ROUNDS and for none at all.
            text.append("place sum*").append(upTo(4)).append("+kept*").append(upTo(4)).append("+last when all;");
            text.append("note old+sum*").append(upTo(4)).append("+kept when kept>").append(upTo(99)).append(";");
            text.append("kept kept*").append(upTo(9)).append("+sum+").append(upTo(99)).append(" when all;");
        }
        for (int i = upTo(3); i > 0; i--) {
            text.append("place ").append(simple == 0 ? "sum*" + upTo(4) + "+" + upTo(4) : sum(2)).append(" when ").append(test(2)).append(" ;");
        }
        for (int i = simple == 0 ? 0 : upTo(3); i > 0; i--) {
            text.append("note ").append(sum(2)).append(" when ").append(test(2)).append(";\n");
        }
        for (int i = upTo(3); i > 0; i--) {
            text.append("kept ").append(chance(50) ? "kept+" + (1 + upTo(20)) : sum(2)).append(" when ").append(test(1)).append(";");
        }
        for (int i = 0; i < doors; i++) {
            text.append("door d").append((char) ('a' + i)).append(' ').append(kind()).append(";");
        }
        for (int i = upTo(4); i > 0; i--) {
            text.append("person p").append((char) ('a' + i)).append(" door d").append((char) ('a' + upTo(doors - 1)));
            text.append(" tune t").append((char) ('a' + upTo(tunes - 1))).append(" loses ").append(upTo(100));
            text.append(" errs ").append(upTo(100)).append(";");
        }
        if (chance(60)) {
            text.append("worth ").append(upTo(9999)).append(' ').append(upTo(9999)).append(";");
        }
        return text.toString();
    }

    private String spoilt(String text) {
        String[] bits = {" ", "", ";", "(", ")", "[", "]", "a", "z", "notes", "tune", "ta", "da", "pa", "not ", "9", "0",
            "99999", "abcdefg", ",", "<", "=", "+", "A", "#", "\n", "\t", "min(", "max", " or ", " and ", "old", "1x",
            "place sum when all;", "tune x 0 0 keep 0;", "door x strict;", "kept 1 when all;", "worth 1 2;",
            "((((((((", "[[[[[[[[[", "1abcdefg", "abcdef1", "12345", "1234"};
        if (chance(50)) {
            return otherToken(text);
        }
        int at = upTo(text.length());
        int cut = chance(50) ? 0 : Math.min(text.length() - at, 1 + upTo(chance(80) ? 2 : 30));
        if (chance(15)) {
            return text.substring(0, at);
        }
        return text.substring(0, at) + bits[upTo(bits.length - 1)] + text.substring(at + cut);
    }

    /** Another NAME or NUMBER in the place of one, so that what stands there is well told and yet wrong. */
    private String otherToken(String text) {
        String[] tokens = text.split("(?<=[^a-z0-9])|(?=[^a-z0-9])");
        String[] names = {"ta", "tb", "tc", "da", "db", "dc", "pa", "pb", "x", "abcdef", "sum", "kept", "door", "notes"};
        String[] numbers = {"0", "1", "2", "3", "4", "5", "6", "7", "9", "10", "40", "41", "99", "100", "101", "0005", "9999"};
        for (int tried = 0; tried < 100; tried++) {
            int at = upTo(tokens.length - 1);
            if (tokens[at].matches("[tdp][a-z]")) {
                tokens[at] = names[upTo(names.length - 1)];
                break;
            }
            if (tokens[at].matches("[0-9]+")) {
                tokens[at] = numbers[upTo(numbers.length - 1)];
                break;
            }
        }
        return String.join("", tokens);
    }

    private void feed(byte[] bytes) {
        for (int at = 0; at < bytes.length || at == 0; at += 20) {
            int[] n = new int[5];
            for (int i = 0; i < 20; i++) {
                n[i / 4] = n[i / 4] << 8 | (at + i < bytes.length ? bytes[at + i] & 255 : upTo(255));
            }
            due("feed", door.feed(n[0], n[1], n[2], n[3], n[4]), model.feed(n[0], n[1], n[2], n[3], n[4]));
        }
        due("end", door.end(bytes.length) ? 1 : 0, model.end(bytes.length) ? 1 : 0);
    }

    private boolean tell(String text) {
        told.append('\n').append(text).append('\n');
        feed(text.getBytes(StandardCharsets.ISO_8859_1));
        int statements = model.house();
        due("house", door.house(), statements);
        for (int what = -1; what < 3; what++) {
            due("fault " + what, door.fault(what), model.fault(what));
        }
        for (int what = -1; what < 11; what++) {
            due("has " + what, door.has(what), model.has(what));
        }
        return statements > 0;
    }

    private void spoiltTexts() {
        String text = goodText();
        if (text.length() > 1500) {
            return;
        }
        for (int i = 0; i < 6; i++) {
            String bad = text;
            for (int k = chance(70) ? 0 : upTo(2); k >= 0; k--) {
                bad = spoilt(bad);
            }
            if (bad.length() <= 1600) {
                tell(bad);
            }
        }
    }

    // ---- runs

    private void run() {
        everything();
        for (int houses = 1 + upTo(1); houses > 0; houses--) {
            String text = goodText();
            if (text.length() <= 1600 && tell(text)) {
                everything();
                for (int i = 0; i < 60; i++) {
                    change();
                    ask();
                    ask();
                }
                wild();
                everything();
            }
        }
    }

    private int any(int most) {
        return chance(92) ? upTo(most) : chance(50) ? -1 - upTo(2) : most + 1 + upTo(2);
    }

    private int anyWhistle() {
        return chance(50) ? any(999) : chance(50) ? upTo(30) : 970 + upTo(32);
    }

    private void change() {
        int p = any(3);
        int a = any(4);
        int b = any(5);
        switch (upTo(12)) {
            case 12:
                jump();
                break;
            case 0:
            case 1:
            case 2:
            case 3:
                act("come " + p, door.come(p), model.come(p));
                break;
            case 4:
                act("slip " + p + " " + a + " " + b, door.slip(p, a, b), model.slip(p, a, b));
                break;
            case 5:
            case 6:
                int n = chance(80) ? 1 + upTo(5) : any(99);
                act("waste " + p + " " + n, door.waste(p, n), model.waste(p, n));
                break;
            case 7:
                n = chance(90) ? 1 + upTo(9) : any(60);
                act("nights " + n, door.nights(n), model.nights(n));
                break;
            case 8:
                n = chance(80) ? random.nextInt() & 0x7fffffff : random.nextInt();
                act("seed " + n, door.seed(n) ? 1 : 0, model.seed(n) ? 1 : 0);
                break;
            case 9:
                hear();
                break;
            case 10:
                picture();
                break;
            default:
                n = any(20);
                act("end " + n, door.end(n) ? 1 : 0, model.end(n) ? 1 : 0);
        }
    }

    private void act(String call, long got, long want) {
        calls++;
        due(call, got, want);
        told.append(call).append("; ");
    }

    private void hear() {
        int length = chance(90) ? Math.max(1, model.has(1)) : any(6);
        byte[] tune = new byte[Math.max(0, length)];
        int n = upTo(40);
        int t = upTo(2);
        for (int i = 0; i < tune.length; i++) {
            tune[i] = (byte) (chance(95) ? Math.max(0, model.note(t, n, i)) : any(6));
        }
        feed(tune);
        int d = any(3);
        act("listen " + d + " " + Arrays.toString(tune), door.listen(d), model.listen(d));
    }

    private void picture() {
        due("image", door.image(), model.image());
        for (int k = -1; k < 71; k++) {
            due("octet " + k, door.octet(k), model.octet(k));
        }
        byte[] bytes = model.picture();
        int size = bytes.length;
        for (int i = upTo(3); i > 0; i--) {
            int at = upTo(size - 1);
            bytes[at] = (byte) (chance(50) ? upTo(4) : upTo(255));
        }
        if (chance(90)) {
            check(bytes);
        }
        feed(chance(95) ? bytes : Arrays.copyOf(bytes, Math.max(0, size - 1 + 2 * upTo(1))));
        act("on " + Arrays.toString(bytes), door.on() ? 1 : 0, model.on() ? 1 : 0);
    }

    /** By an image that may be, all COUNTS go elsewhere: to the last WHISTLES, for one. */
    private void jump() {
        due("image", door.image(), model.image());
        byte[] bytes = model.picture();
        int around = chance(50) ? 1000 : chance(50) ? upTo(1000) : 2;
        int ears = 2 * model.has(4);
        for (int at = 0; at < bytes.length - 1; at += at < ears ? 2 : 5) {
            int count = Math.max(0, around - upTo(chance(50) ? 3 : 12));
            boolean ear = at < ears || bytes.length < 7 || model.ear((at - ears) / 5 / model.has(2), (at - ears) / 5 % model.has(2), 0) >= 0;
            bytes[at] = (byte) (ear ? count >> 8 : 0);
            bytes[at + 1] = (byte) (ear ? count : 0);
            if (at >= ears && ear) {
                bytes[at + 4] = (byte) (chance(50) ? upTo(3) : 252 + upTo(3));
                int half = model.door((at - ears) / 5 / model.has(2), 0) == 2 && chance(50) ? Math.min(1000, count + upTo(3)) : 0;
                bytes[at + 2] = (byte) (half >> 8);
                bytes[at + 3] = (byte) half;
            }
        }
        check(bytes);
        feed(bytes);
        act("on " + Arrays.toString(bytes), door.on() ? 1 : 0, model.on() ? 1 : 0);
    }

    private static void check(byte[] bytes) {
        int c = 33;
        for (int i = 0; i < bytes.length - 1; i++) {
            c = (7 * c + (bytes[i] & 255)) % 241;
        }
        bytes[bytes.length - 1] = (byte) c;
    }

    private void ask() {
        int p = any(3);
        int t = any(2);
        int o = any(2);
        int n = anyWhistle();
        switch (upTo(9)) {
            case 0: due("mend " + p, door.mend(p), model.mend(p)); break;
            case 1: int c = any(5); due("likely " + p + " " + c, door.likely(p, c), model.likely(p, c)); break;
            case 2: c = any(5); due("lost " + p + " " + c, door.lost(p, c), model.lost(p, c)); break;
            case 3: due("bears " + p, door.bears(p), model.bears(p)); break;
            case 4: int k = any(30); due("knows " + t + " " + n + " " + k, door.knows(t, n, k), model.knows(t, n, k)); break;
            case 5: due("sure " + t + " " + n, door.sure(t, n), model.sure(t, n)); break;
            case 6: k = any(30); due("right " + t + " " + n + " " + k, door.right(t, n, k), model.right(t, n, k)); break;
            case 7: due("tells " + t + " " + o + " " + n, door.tells(t, o, n), model.tells(t, o, n)); break;
            case 8: int m = any(100); due("bird " + p + " " + t + " " + n + " " + m, door.bird(p, t, n, m), model.bird(p, t, n, m)); break;
            default: int number = any(40); due("find " + t + " " + n + " " + number, door.find(t, n, number), model.find(t, n, number));
        }
        for (int i = -1; i < 5; i++) {
            due("apart " + i, door.apart(i), model.apart(i));
            due("would " + i, door.would(i), model.would(i));
            due("near " + i, door.near(i), model.near(i));
            for (int what = -1; what < 8; what++) {
                due("person " + i + " " + what, door.person(i, what), model.person(i, what));
            }
            for (int what = -1; what < 4; what++) {
                due("opened " + i + " " + what, door.opened(i, what), model.opened(i, what));
                for (int tune = -1; tune < 4; tune++) {
                    due("ear " + i + " " + tune + " " + what, door.ear(i, tune, what), model.ear(i, tune, what));
                }
            }
        }
    }

    private int wildOne() {
        int[] wild = {Integer.MIN_VALUE, Integer.MIN_VALUE + 1, -10001, -1000, -3, -2, -1, 0, 1, 2, 3, 4, 5, 20, 61, 99, 100, 501, 998,
            999, 1000, 1001, 7776, 1 << 30, Integer.MAX_VALUE - 1, Integer.MAX_VALUE};
        return chance(60) ? upTo(3) : wild[upTo(wild.length - 1)];
    }

    /** Arguments from anywhere: no call throws, and all are refused as the document says. */
    private void wild() {
        for (int i = 0; i < 60; i++) {
            int a = wildOne();
            int b = wildOne();
            int c = wildOne();
            int d = wildOne();
            String with = " " + a + " " + b + " " + c + " " + d;
            due("end" + with, door.end(a) ? 1 : 0, model.end(a) ? 1 : 0);
            due("fault" + with, door.fault(a), model.fault(a));
            due("has" + with, door.has(a), model.has(a));
            due("letter" + with, door.letter(a, b, c), model.letter(a, b, c));
            due("door" + with, door.door(a, b), model.door(a, b));
            due("person" + with, door.person(a, b), model.person(a, b));
            due("note" + with, door.note(a, b, c), model.note(a, b, c));
            due("round" + with, door.round(a, b), model.round(a, b));
            due("find" + with, door.find(a, b, c), model.find(a, b, c));
            due("ear" + with, door.ear(a, b, c), model.ear(a, b, c));
            due("come" + with, door.come(a), model.come(a));
            due("slip" + with, door.slip(a, b, c), model.slip(a, b, c));
            due("waste" + with, door.waste(a, b), model.waste(a, b));
            due("listen" + with, door.listen(a), model.listen(a));
            due("opened" + with, door.opened(a, b), model.opened(a, b));
            due("apart" + with, door.apart(a), model.apart(a));
            due("mend" + with, door.mend(a), model.mend(a));
            due("would" + with, door.would(a), model.would(a));
            due("likely" + with, door.likely(a, b), model.likely(a, b));
            due("lost" + with, door.lost(a, b), model.lost(a, b));
            due("bears" + with, door.bears(a), model.bears(a));
            due("near" + with, door.near(a), model.near(a));
            due("knows" + with, door.knows(a, b, c), model.knows(a, b, c));
            due("sure" + with, door.sure(a, b), model.sure(a, b));
            due("right" + with, door.right(a, b, c), model.right(a, b, c));
            due("same" + with, door.same(a, b, c), model.same(a, b, c));
            due("tells" + with, door.tells(a, b, c), model.tells(a, b, c));
            due("bird" + with, door.bird(a, b, c, d), model.bird(a, b, c, d));
            due("nights" + with, door.nights(a), model.nights(a));
            due("seed" + with, door.seed(a) ? 1 : 0, model.seed(a) ? 1 : 0);
            due("octet" + with, door.octet(a), model.octet(a));
            due("status" + with, door.status(a), model.status(a));
            if (i % 12 == 0) {
                due("stranger" + with, door.stranger(a, b), model.stranger(a, b));
                due("cost" + with, door.cost(a, b, c, d), model.cost(a, b, c, d));
            }
        }
    }

    /** What is too dear for each step. */
    private void everything() {
        for (int i = -1; i < 5; i++) {
            for (int what = -1; what < 5; what++) {
                due("door " + i + " " + what, door.door(i, what), model.door(i, what));
                due("round " + i + " " + what, door.round(i, what), model.round(i, what));
                for (int k = -1; k < 4; k++) {
                    due("letter " + what + " " + i + " " + k, door.letter(what, i, k), model.letter(what, i, k));
                    due("same " + i + " " + what + " " + k, door.same(i, what, k), model.same(i, what, k));
                }
            }
            for (int n = -1; n <= 1000; n += 1 + upTo(3)) {
                for (int place = -3; place < 6; place++) {
                    due("note " + i + " " + n + " " + place, door.note(i, n, place), model.note(i, n, place));
                }
            }
            for (int n = 0; n < 10; n++) {
                due("likely " + i + " " + n, door.likely(i, n), model.likely(i, n));
                due("lost " + i + " " + n, door.lost(i, n), model.lost(i, n));
            }
            for (int tries : new int[] {-2, -1, 0, 1, upTo(500), 501}) {
                due("stranger " + i + " " + tries, door.stranger(i, tries), model.stranger(i, tries));
            }
        }
        int p = upTo(3);
        int n = any(6);
        int window = any(20);
        for (int what = -1; what < 3; what++) {
            due("cost " + p + " " + n + " " + window + " " + what, door.cost(p, n, window, what), model.cost(p, n, window, what));
        }
        for (int what = -1; what < 7; what++) {
            due("status " + what, door.status(what), model.status(what));
        }
    }
}
