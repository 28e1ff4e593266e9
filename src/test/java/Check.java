import java.io.IOException;
import java.nio.charset.StandardCharsets;
import java.nio.file.Files;
import java.nio.file.Path;

/** What all tests share: counting wrong answers, and feeding a text to a TuneDoor. */
final class Check {
    private int wrong;
    private int asked;
    private String about = "";
    private String document;

    /** What follows is about this sentence; it is wrong if the document has no such one (any more). */
    void sentence(String words) {
        about = "\"" + words + "\": ";
        if (document == null) {
            document = documentText();
        }
        due("the document has it", document.contains(words), true);
    }

    private static String documentText() {
        try {
            return Files.readString(Path.of("../shared/DOC.md")).replaceAll("\\s+", " ");
        } catch (IOException gone) {
            throw new IllegalStateException("no ../shared/DOC.md", gone);
        }
    }

    void due(String call, long got, long want) {
        asked++;
        if (got != want) {
            wrong++;
            if (wrong <= 12) {
                System.out.println(about + call + " answered " + got + ", due is " + want);
            }
        }
    }

    void due(String call, boolean got, boolean want) {
        due(call, got ? 1 : 0, want ? 1 : 0);
    }

    void due(String call, String got, String want) {
        due(call + " [" + got + "]", got.equals(want), true);
    }

    /** A text whose FAULT stands where ^ does; told to a new object, which has no NOTES then. */
    void faulty(int what, String marked) {
        TuneDoor x = new TuneDoor();
        int place = marked.indexOf('^');
        String text = marked.substring(0, place) + marked.substring(place + 1);
        due("house of " + marked, house(x, text), TuneDoor.NONE);
        due("fault of " + marked, x.fault(0), what);
        due("its place in " + marked, x.fault(1), place);
        due("NOTES after " + marked, x.has(0), 0);
    }

    /** A text without a FAULT, of so many STATEMENTS. */
    void good(int statements, String text) {
        TuneDoor x = new TuneDoor();
        due("house of " + text, house(x, text), statements);
        due("fault of " + text, x.fault(0), 0);
        due("its place in " + text, x.fault(1), TuneDoor.NONE);
    }

    void close() {
        System.out.println(asked + " answers, " + wrong + " not as due");
        if (wrong != 0) {
            System.exit(1);
        }
    }

    static void tape(TuneDoor door, byte[] bytes) {
        for (int at = 0; at < bytes.length; at += 20) {
            int[] numbers = new int[5];
            for (int i = 0; i < 20; i++) {
                int octet = at + i < bytes.length ? bytes[at + i] & 255 : ' ';
                numbers[i / 4] = numbers[i / 4] << 8 | octet;
            }
            door.feed(numbers[0], numbers[1], numbers[2], numbers[3], numbers[4]);
        }
        door.end(bytes.length);
    }

    static void tape(TuneDoor door, int... octets) {
        byte[] bytes = new byte[octets.length];
        for (int i = 0; i < octets.length; i++) {
            bytes[i] = (byte) octets[i];
        }
        tape(door, bytes);
    }

    static void tape(TuneDoor door, String text) {
        tape(door, text.getBytes(StandardCharsets.ISO_8859_1));
    }

    static int house(TuneDoor door, String text) {
        tape(door, text);
        return door.house();
    }

    static TuneDoor told(String text) {
        TuneDoor door = new TuneDoor();
        if (house(door, text) == TuneDoor.NONE) {
            throw new IllegalStateException("FAULT " + door.fault(0) + " at " + door.fault(1) + ": " + text);
        }
        return door;
    }
}
