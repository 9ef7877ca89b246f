import java.nio.ByteBuffer;
import java.nio.charset.StandardCharsets;
import java.util.ArrayList;
import java.util.Arrays;
import java.util.List;

/**
 * A run of calls on a new object that holds one sentence of the document. Calls are written as
 * "name arguments = the answer that is due", several of them with ; between.
 */
final class Run {
    /** A text of which each part shows whether something of a text ahead has stayed. */
    private static final String NEXT = "place a;place b;way a b 400 7;school s at b 480;stop t at a;"
            + "right if (class+1)*2==8 and not far<400;";
    private static int asked = 0;
    private static int wrong = 0;

    private final String sentence;
    private final Asked rides = new Asked();
    private final List<String> told = new ArrayList<>();

    private Run(String sentence) {
        this.sentence = sentence;
    }

    /** A sentence, or a part of one, of a section of the document: "what", "I" to "IV", or a promise's number. */
    static Run of(String section, String sentence) {
        Quotes.quote(section, sentence);
        return new Run(section + ": " + sentence);
    }

    /** Another new object for the same sentence. */
    Run again() {
        return new Run(sentence);
    }

    /** Another object to which all was told that was told to this one. */
    Run twin() {
        Run twin = new Run(sentence);
        for (String call : told) {
            twin.rides.ask(call);
            twin.told.add(call);
        }
        return twin;
    }

    Run ask(String... calls) {
        for (String some : calls) {
            for (String one : some.split(";")) {
                String[] sides = one.split("=");
                int got = answer(sides[0].trim());
                if (sides.length > 1) {
                    due(sides[0].trim(), got, Asked.number(sides[1].trim()));
                }
            }
        }
        return this;
    }

    /** Calls that are refused: the answer of each, and that it leaves everything as it was. */
    Run refuse(String... calls) {
        for (String some : calls) {
            for (String one : some.split(";")) {
                List<String> before = Look.at(told, true);
                ask(one);
                alike(one, before, Look.at(told, true));
            }
        }
        return this;
    }

    /** A text with a fault: its number and place, and that it leaves everything but the tape and place() as it was. */
    Run refuseText(String text, int number, int place) {
        List<String> before = Look.at(told, false);
        text(text).ask("read 0 = " + number + "; place = " + place + "; count 6 = 0");
        alike(text, before, Look.at(told, false));
        return this;
    }

    /** A text by itself on a new object: its fault and the byte (0 and -1: none); the next text shows nothing of it. */
    void fault(String text, int number, int place) {
        Run run = again().text(text).ask("read 0 = " + number + "; place = " + place + "; count 6 = 0",
                "count 0 = " + (number == 0 ? 1 : 0));
        if (number != 0) {
            run.read(0, NEXT).ask("place = -1; count 10 = 2; count 20 = 1; count 30 = 1; count 40 = 1; child 0 0 3 0; child 0 0 4 0",
                    "right 0 0 2 = 0; right 1 0 2 = -2; dist 0 1 1 0 2 = 400; dist 1 0 2 0 2 = 7; pay 0 0 2 = 35; pay 1 0 2 = -1");
        }
    }

    private void alike(String call, List<String> before, List<String> after) {
        for (int i = 0; i < Math.max(before.size(), after.size()); i++) {
            String old = i < before.size() ? before.get(i) : "nothing";
            String now = i < after.size() ? after.get(i) : "nothing";
            if (!old.equals(now)) {
                fail(call + " altered what was " + old + " to " + now);
                return;
            }
        }
        asked++;
    }

    /** Puts a text behind the tape. */
    Run text(String text) {
        byte[] bytes = text.getBytes(StandardCharsets.ISO_8859_1);
        byte[] padded = Arrays.copyOf(bytes, (bytes.length + 19) / 20 * 20);
        ByteBuffer buffer = ByteBuffer.wrap(padded);
        while (buffer.hasRemaining()) {
            answer("feed " + buffer.getInt() + " " + buffer.getInt() + " " + buffer.getInt() + " " + buffer.getInt()
                    + " " + buffer.getInt());
        }
        if (padded.length > bytes.length) {
            answer("back " + (padded.length - bytes.length));
        }
        return this;
    }

    /** A text without a fault, to hold from a day on. */
    Run read(int from, String text) {
        return text(text).ask("read " + from + " = 0");
    }

    /** Asks one thing again and again until so many calls in all were made. */
    Run askUntil(int calls, String call) {
        while (told.size() < calls) {
            ask(call);
        }
        return this;
    }

    private int answer(String call) {
        told.add(call);
        return rides.ask(call);
    }

    private void due(String call, int got, int want) {
        asked++;
        if (got != want) {
            fail(call + " answered " + got + ", due is " + want);
        }
    }

    private void fail(String what) {
        wrong++;
        System.out.println("\"" + sentence + "\"\n    " + what);
    }

    static int finish() {
        System.out.println(asked + " answers, " + wrong + " not as due");
        return wrong;
    }
}
