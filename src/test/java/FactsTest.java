/** Promises 6 to 11, 13 and 44: what is told of children, and what was known then. */
public final class FactsTest {
    private static final int MOST = Integer.MAX_VALUE;
    private static final int LEAST = Integer.MIN_VALUE;

    public static void main(String[] args) {
        children();
        wrongFacts();
        limits();
        homes();
        voids();
        Check.finish();
    }

    private static void children() {
        SchoolRides x = new SchoolRides();
        int[][] wrong = {{-1, 0, 0, 0}, {12, 0, 0, 0}, {0, -1, 0, 0}, {0, 3, 0, 0}, {0, 0, -1, 0}, {0, 0, 13, 0},
            {0, 0, 0, -1}, {0, 0, 0, 4}, {MOST, 0, 0, 0}, {0, LEAST, 0, 0}, {0, 0, MOST, 0}, {0, 0, 0, LEAST}};
        for (int[] w : wrong) {
            Check.due("child", x.child(w[0], w[1], w[2], w[3]), -1);
        }
        Check.due("facts", x.count(1), 0);
        Check.due("child", x.child(11, 2, 12, 3), 0);
        x.shut(0, 0, 0);
        Check.due("a child's number, not the fact's", x.child(0, 0, 0, 0), 1);
        Check.due("facts", x.count(1), 3);
        Check.due("children", x.count(2), 2);
        for (int i = 2; i < 20; i++) {
            Check.due("child", x.child(0, 0, 0, 0), i);
        }
        Check.due("21st child", x.child(0, 0, 0, 0), -1);
        Check.due("facts", x.count(1), 21);
    }

    private static void wrongFacts() {
        SchoolRides x = new SchoolRides();
        Check.due("move of nobody", x.move(0, 0, 0, false), -1);
        Check.due("part of nobody", x.part(0, 1), -1);
        Check.due("tap of nobody", x.tap(0, 0, 0, 0), -1);
        Check.due("annul of nothing", x.annul(0), -1);
        x.child(0, 0, 0, 0);
        x.child(0, 0, 0, 0);
        int[][] moves = {{-1, 0, 0}, {2, 0, 0}, {0, -1, 0}, {0, 12, 0}, {0, 0, -1}, {0, 0, 365}, {MOST, 0, 0}};
        for (int[] m : moves) {
            Check.due("move", x.move(m[0], m[1], m[2], false), -1);
            Check.due("move in weeks", x.move(m[0], m[1], m[2], true), -1);
        }
        int[][] shuts = {{-1, 0, 0}, {24, 0, 0}, {0, -1, 0}, {0, 0, 365}, {0, 5, 4}, {0, 365, 365}, {LEAST, 0, 0}};
        for (int[] s : shuts) {
            Check.due("shut", x.shut(s[0], s[1], s[2]), -1);
        }
        Check.due("part with itself", x.part(1, 1), -1);
        Check.due("part", x.part(-1, 1), -1);
        Check.due("part", x.part(1, 2), -1);
        Check.due("part", x.part(2, 1), -1);
        int[][] taps = {{-1, 0, 0, 0}, {2, 0, 0, 0}, {0, -1, 0, 0}, {0, 6, 0, 0}, {0, 0, -1, 0}, {0, 0, 365, 0},
            {0, 0, 0, -1}, {0, 0, 0, 1440}};
        for (int[] t : taps) {
            Check.due("tap", x.tap(t[0], t[1], t[2], t[3]), -1);
        }
        Check.due("annul(-1)", x.annul(-1), -1);
        Check.due("annul(2)", x.annul(2), -1);
        Check.due("annul of a child", x.annul(1), -1);
        Check.due("facts", x.count(1), 2);
        Check.due("move", x.move(1, 11, 364, true), 2);
        Check.due("shut", x.shut(23, 364, 364), 3);
        Check.due("part", x.part(1, 0), 4);
        Check.due("tap", x.tap(1, 5, 364, 1439), 5);
        Check.due("annul", x.annul(5), 6);
        Check.due("annul of a void", x.annul(6), -1);
        Check.due("annul once more", x.annul(5), 7);
        Check.due("facts", x.count(1), 8);
    }

    private static void limits() {
        SchoolRides x = new SchoolRides();
        x.child(0, 0, 0, 0);
        x.child(0, 0, 0, 0);
        for (int i = 2; i < 100; i++) {
            Check.due("shut", x.shut(0, 0, 0), i);
        }
        Check.due("101st fact: child", x.child(0, 0, 0, 0), -1);
        Check.due("101st fact: move", x.move(0, 0, 0, false), -1);
        Check.due("101st fact: shut", x.shut(0, 0, 0), -1);
        Check.due("101st fact: part", x.part(0, 1), -1);
        Check.due("101st fact: tap", x.tap(0, 0, 0, 0), -1);
        Check.due("101st fact: annul", x.annul(50), -1);
        Check.due("facts", x.count(1), 100);
        Check.due("children", x.count(2), 2);
        Check.due("home by all", x.home(1, 0, 100), 0);
        Check.due("home by more", x.home(1, 0, 101), -1);
    }

    private static void homes() {
        SchoolRides x = new SchoolRides();
        x.shut(0, 0, 0);
        x.child(3, 0, 0, 0);
        Check.due("home unknown yet", x.home(0, 0, 1), -1);
        Check.due("home", x.home(0, 0, 2), 3);
        Check.due("home on no day", x.home(0, 365, 2), -1);
        Check.due("home on no day", x.home(0, -1, 2), -1);
        Check.due("home of nobody", x.home(1, 0, 2), -1);
        Check.due("home of nobody", x.home(-1, 0, 2), -1);
        Check.due("home by too many", x.home(0, 0, 3), -1);
        Check.due("home by -1", x.home(0, 0, -1), -1);
        x.child(9, 0, 0, 0);
        x.move(0, 4, 10, false);
        x.move(0, 5, 20, false);
        x.move(0, 6, 10, false);
        Check.due("ahead of the move", x.home(0, 9, 6), 3);
        Check.due("of alike ones the last told", x.home(0, 10, 6), 6);
        Check.due("as known then", x.home(0, 10, 5), 4);
        Check.due("the one with the last day", x.home(0, 20, 6), 5);
        Check.due("the other child", x.home(1, 20, 6), 9);
        x.move(0, 7, 8, true);
        Check.due("odd week, from day 8 on", x.home(0, 7, 7), 3);
        Check.due("odd week", x.home(0, 8, 7), 7);
        Check.due("odd week", x.home(0, 13, 7), 7);
        Check.due("even week", x.home(0, 14, 7), 6);
        Check.due("even week", x.home(0, 20, 7), 5);
        Check.due("odd week again", x.home(0, 21, 7), 7);
        x.move(0, 1, 22, true);
        x.move(0, 2, 22, true);
        Check.due("weeks: the last day", x.home(0, 21, 9), 7);
        Check.due("weeks: the last told", x.home(0, 22, 9), 2);
        Check.due("weeks: as known then", x.home(0, 22, 8), 1);
    }

    private static void voids() {
        SchoolRides x = new SchoolRides();
        x.child(3, 0, 0, 0);
        x.move(0, 4, 10, false);
        x.move(0, 5, 10, false);
        x.annul(2);
        Check.due("void known", x.home(0, 10, 4), 4);
        Check.due("void not known", x.home(0, 10, 3), 5);
        x.annul(1);
        x.annul(1);
        Check.due("both void", x.home(0, 10, 6), 3);
        Check.due("one void", x.home(0, 10, 4), 4);
        x.move(0, 8, 10, true);
        Check.due("weeks", x.home(0, 10, 7), 8);
        x.annul(6);
        Check.due("weeks void", x.home(0, 10, 8), 3);
        Check.due("weeks void not known", x.home(0, 10, 7), 8);
    }
}
