import java.nio.ByteBuffer;
import java.nio.charset.StandardCharsets;
import java.util.Arrays;

/** What the tests share: telling wrong answers, and putting a text on the tape. */
final class Check {
    private static int asked = 0;
    private static int wrong = 0;

    private Check() { }

    static void due(String call, long got, long want) {
        asked++;
        if (got != want) {
            wrong++;
            System.out.println(call + " answered " + got + ", due is " + want);
        }
    }

    static void due(String call, boolean got, boolean want) {
        due(call, got ? 1 : 0, want ? 1 : 0);
    }

    static void finish() {
        System.out.println(asked + " answers, " + wrong + " not as due");
        if (wrong != 0) {
            System.exit(1);
        }
    }

    /** Puts a text on the tape, which was empty. */
    static void feed(SchoolRides x, String text) {
        byte[] bytes = text.getBytes(StandardCharsets.ISO_8859_1);
        byte[] padded = Arrays.copyOf(bytes, (bytes.length + 19) / 20 * 20);
        ByteBuffer buffer = ByteBuffer.wrap(padded);
        while (buffer.hasRemaining()) {
            x.feed(buffer.getInt(), buffer.getInt(), buffer.getInt(), buffer.getInt(), buffer.getInt());
        }
        due("bytes on the tape", x.back(padded.length - bytes.length), bytes.length);
    }

    static int read(SchoolRides x, String text, int from) {
        feed(x, text);
        return x.read(from);
    }

    /** An object with one text that holds from day 0 on. */
    static SchoolRides with(String text) {
        SchoolRides x = new SchoolRides();
        due("read of " + text, read(x, text, 0), 0);
        return x;
    }
}
