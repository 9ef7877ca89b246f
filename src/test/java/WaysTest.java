/** Promises 14 and 15: sums of ways and their rows. */
public final class WaysTest {
    public static void main(String[] args) {
        sums();
        rows();
        shutWays();
        wrongCalls();
        Check.finish();
    }

    /** Two ways of alike length lead from a to d, through b and through c; e stands alone. */
    private static SchoolRides square() {
        return Check.with("place a;place b;place c;place d;place e;way a c 100 9;way c d 200 1;way d b 100 4 bad;"
                + "way b a 200 4;way a d 900 99 bad;way a c 150 1;");
    }

    private static void sums() {
        SchoolRides x = square();
        int[][] far = {{0, 200, 100, 300}, {200, 0, 300, 100}, {100, 300, 0, 200}, {300, 100, 200, 0}};
        int[][] safe = {{0, 200, 100, 300}, {200, 0, 300, 500}, {100, 300, 0, 200}, {300, 500, 200, 0}};
        int[][] minutes = {{0, 4, 1, 2}, {4, 0, 5, 4}, {1, 5, 0, 1}, {2, 4, 1, 0}};
        for (int a = 0; a < 4; a++) {
            for (int b = 0; b < 4; b++) {
                Check.due("far " + a + " " + b, x.dist(a, b, 0, 0, 0), far[a][b]);
                Check.due("safe " + a + " " + b, x.dist(a, b, 1, 0, 0), safe[a][b]);
                Check.due("minutes " + a + " " + b, x.dist(a, b, 2, 0, 0), minutes[a][b]);
            }
            Check.due("no way", x.dist(a, 4, 0, 0, 0), -2);
            Check.due("no such place in the text", x.dist(a, 5, 0, 0, 0), -2);
            Check.due("no such place in the text", x.dist(5, a, 2, 0, 0), -2);
        }
        Check.due("a place alone", x.dist(4, 4, 1, 0, 0), 0);
        Check.due("no place", x.dist(11, 11, 0, 0, 0), -2);
    }

    private static void row(SchoolRides x, int a, int b, int what, int... places) {
        for (int i = 0; i < places.length; i++) {
            Check.due("row " + a + " " + b + " by " + what + " at " + i, x.row(a, b, what, 0, 0, i), places[i]);
        }
        for (int i : new int[] {-1, places.length, 12, Integer.MAX_VALUE, Integer.MIN_VALUE}) {
            Check.due("row " + a + " " + b + " by " + what + " at " + i, x.row(a, b, what, 0, 0, i), -1);
        }
    }

    private static void rows() {
        SchoolRides x = square();
        row(x, 0, 3, 0, 0, 1, 3);
        row(x, 3, 0, 0, 3, 1, 0);
        row(x, 0, 3, 1, 0, 2, 3);
        row(x, 1, 3, 1, 1, 0, 2, 3);
        row(x, 0, 3, 2, 0, 2, 3);
        row(x, 2, 1, 0, 2, 0, 1);
        row(x, 4, 4, 0, 4);
        row(x, 0, 4, 0);
        row(x, 5, 5, 0);
        row(x, 0, 5, 1);
        // the second place is least, though a later one is not
        SchoolRides y = Check.with("place a;place b;place c;place d;place e;place f;way a b 1 1;way b e 1 1;way e f 1 1;"
                + "way a c 1 1;way c d 1 1;way d f 1 1;way b d 1 1;");
        row(y, 0, 5, 0, 0, 1, 3, 5);
        row(y, 5, 0, 0, 5, 3, 1, 0);
    }

    private static void shutWays() {
        SchoolRides x = square();
        x.shut(1, 5, 6);
        x.shut(20, 0, 364);
        Check.due("open the day ahead", x.dist(2, 3, 0, 4, 2), 200);
        Check.due("shut on the first day", x.dist(2, 3, 0, 5, 2), 400);
        Check.due("shut on the last day", x.dist(2, 3, 0, 6, 2), 400);
        Check.due("open the day behind", x.dist(2, 3, 0, 7, 2), 200);
        Check.due("not known", x.dist(2, 3, 0, 5, 0), 200);
        Check.due("safe: none", x.dist(2, 3, 1, 5, 2), -2);
        Check.due("minutes", x.dist(2, 3, 2, 5, 2), 9);
        Check.due("row", x.row(2, 3, 0, 5, 2, 2), 1);
        Check.due("row: none", x.row(2, 3, 1, 5, 2, 0), -1);
        x.annul(0);
        Check.due("void", x.dist(2, 3, 0, 5, 3), 200);
        Check.due("void not known", x.dist(2, 3, 0, 5, 2), 400);
        // ways are those of the text in force
        Check.due("read", Check.read(x, "place a;place b;way a b 7 7;", 6), 0);
        x.shut(0, 6, 6);
        Check.due("the new text's way is shut", x.dist(0, 1, 0, 6, 4), -2);
        Check.due("and open", x.dist(0, 1, 0, 7, 4), 7);
        Check.due("the old text ahead", x.dist(0, 1, 0, 5, 4), 200);
        Check.due("no such place now", x.dist(2, 2, 0, 6, 4), -2);
    }

    private static void wrongCalls() {
        SchoolRides x = new SchoolRides();
        Check.read(x, "place a;", 3);
        x.shut(0, 0, 0);
        int[][] wrong = {{-1, 0, 0, 3, 0}, {12, 0, 0, 3, 0}, {0, -1, 0, 3, 0}, {0, 12, 0, 3, 0}, {0, 0, -1, 3, 0},
            {0, 0, 3, 3, 0}, {0, 0, 0, 2, 0}, {0, 0, 0, 365, 0}, {0, 0, 0, -1, 0}, {0, 0, 0, 3, -1}, {0, 0, 0, 3, 2},
            {0, 11, 3, 3, 0}};
        for (int[] w : wrong) {
            Check.due("dist", x.dist(w[0], w[1], w[2], w[3], w[4]), -1);
            Check.due("row", x.row(w[0], w[1], w[2], w[3], w[4], 0), -1);
        }
        Check.due("dist", x.dist(0, 0, 0, 3, 1), 0);
        Check.due("row", x.row(0, 0, 0, 3, 1, 0), 0);
    }
}
