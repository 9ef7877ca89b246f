import java.nio.ByteBuffer;
import java.nio.charset.StandardCharsets;
import java.util.Arrays;

/** The example of README.md: a map and its laws, three children, their plan, and a way that is shut. */
public final class Example {
    private static final String TEXT = "place hill; place mill; place town;\n"
            + "way hill mill 900 4; way mill town 700 3; way hill town 2500 9 bad;\n"
            + "school low at town 480; stop pond at hill; stop oak at mill;\n"
            + "right if 1000 < safe; right if needs != 0; bus 20 1; nurse 6;\n";

    public static void main(String[] args) {
        SchoolRides x = new SchoolRides();
        feed(x, TEXT);
        say("read(7)", x.read(7));                          // it holds from day 7 on
        say("child(0, 0, 3, 0)", x.child(0, 0, 3, 0));      // from hill to low, class 3
        say("child(1, 0, 5, 0)", x.child(1, 0, 5, 0));      // from mill
        say("child(1, 0, 1, 1)", x.child(1, 0, 1, 1));      // from mill, needs a nurse
        int n = x.count(1);                                 // 3: as known by all facts so far
        say("right(0, 7, 3)", x.right(0, 7, n));            // the first right: 1600 metres
        say("right(1, 7, 3)", x.right(1, 7, n));            // 700 metres, no needs: none
        say("right(2, 7, 3)", x.right(2, 7, n));            // the second right
        say("right(0, 6, 3)", x.right(0, 6, n));            // no text holds yet: nothing to ask
        say("pay(0, 7, 3)", x.pay(0, 7, n));                // 20 + 1 * 7 + 6 for one route
        say("routeSet(0, 7, 3, 0)", x.routeSet(0, 7, n, 0)); // by the stops 0 and 1
        say("shift(0, 7, 3)", x.shift(0, 7, n));            // its bell stays
        say("shift(1, 7, 3)", x.shift(1, 7, n));            // no such school
        say("shut(1, 14, 20)", x.shut(1, 14, 20));          // fact 3: mill - town on days 14 .. 20
        say("dist(1, 2, 2, 14, 3)", x.dist(1, 2, 2, 14, 3)); // as known then
        say("dist(1, 2, 2, 14, 4)", x.dist(1, 2, 2, 14, 4)); // as known now: by hill
        say("dist(1, 2, 1, 14, 4)", x.dist(1, 2, 1, 14, 4)); // that way is bad: no safe one
        feed(x, "place hill; place hill;");
        say("read(30)", x.read(30));                        // a name told twice ..
        say("place()", x.place());                          // .. at this byte
    }

    /** Puts a text behind the tape: twenty bytes a call; the zeros that fill up the last twenty go again. */
    private static void feed(SchoolRides x, String text) {
        byte[] bytes = text.getBytes(StandardCharsets.ISO_8859_1);
        ByteBuffer twenties = ByteBuffer.wrap(Arrays.copyOf(bytes, (bytes.length + 19) / 20 * 20));
        while (twenties.hasRemaining()) {
            x.feed(twenties.getInt(), twenties.getInt(), twenties.getInt(), twenties.getInt(), twenties.getInt());
        }
        x.back(twenties.limit() - bytes.length);
    }

    private static void say(String call, int answer) {
        System.out.println(call + " = " + answer);
    }
}
