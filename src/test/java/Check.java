import java.nio.charset.StandardCharsets;

/** What all tests share: counting wrong answers, and feeding a text to a TuneDoor. */
final class Check {
    private int wrong;
    private int asked;

    void due(String call, long got, long want) {
        asked++;
        if (got != want) {
            wrong++;
            if (wrong <= 12) {
                System.out.println(call + " answered " + got + ", due is " + want);
            }
        }
    }

    void due(String call, boolean got, boolean want) {
        due(call, got ? 1 : 0, want ? 1 : 0);
    }

    void close() {
        System.out.println(asked + " answers, " + wrong + " not as due");
        if (wrong != 0) {
            System.exit(1);
        }
    }

    static void tape(TuneDoor door, byte[] bytes) {
        for (int at = 0; at < bytes.length; at += 20) {
            int[] numbers = new int[5];
            for (int i = 0; i < 20; i++) {
                int octet = at + i < bytes.length ? bytes[at + i] & 255 : ' ';
                numbers[i / 4] = numbers[i / 4] << 8 | octet;
            }
            door.feed(numbers[0], numbers[1], numbers[2], numbers[3], numbers[4]);
        }
        door.end(bytes.length);
    }

    static void tape(TuneDoor door, int... octets) {
        byte[] bytes = new byte[octets.length];
        for (int i = 0; i < octets.length; i++) {
            bytes[i] = (byte) octets[i];
        }
        tape(door, bytes);
    }

    static int house(TuneDoor door, String text) {
        tape(door, text.getBytes(StandardCharsets.ISO_8859_1));
        return door.house();
    }

    static TuneDoor told(String text) {
        TuneDoor door = new TuneDoor();
        if (house(door, text) == TuneDoor.NONE) {
            throw new IllegalStateException("FAULT " + door.fault(0) + " at " + door.fault(1) + ": " + text);
        }
        return door;
    }
}
