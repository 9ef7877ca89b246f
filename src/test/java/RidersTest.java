/** Promises 16 to 19: rights, days that alter them, stops and loads. */
public final class RidersTest {
    private static final String MAP = "place a;place b;place c;place d;way a b 400 4;way b c 500 5 bad;way a c 2000 9;"
            + "school s at c 480;";

    public static void main(String[] args) {
        variables();
        conds();
        firstRight();
        altered();
        stops();
        loads();
        wrongCalls();
        Check.finish();
    }

    /** The right of one child (home a, class 3, needs 2) on day 8 by one cond. */
    private static void holds(String cond, boolean does) {
        SchoolRides x = Check.with(MAP + "right if " + cond + ";");
        x.child(0, 0, 3, 2);
        Check.due(cond, x.right(0, 8, 1), does ? 0 : -2);
    }

    private static void variables() {
        holds("class == 3", true);
        holds("needs == 2", true);
        holds("far == 900", true);
        holds("safe == 2000", true);
        holds("day == 8", true);
        SchoolRides x = Check.with(MAP + "right if far == 9999 and safe == 9999;right if far == 0;");
        x.child(3, 0, 0, 0);
        x.child(0, 1, 0, 0);
        x.child(7, 0, 0, 0);
        x.child(2, 0, 0, 0);
        x.child(2, 2, 0, 0);
        Check.due("no ways lead there", x.right(0, 0, 5), 0);
        Check.due("no such school", x.right(1, 0, 5), 0);
        Check.due("no such place", x.right(2, 0, 5), 0);
        Check.due("at school", x.right(3, 0, 5), 1);
        Check.due("at no school", x.right(4, 0, 5), 0);
        // above 9999 by itself, and both change with shut ways and moves
        SchoolRides y = Check.with("place a;place b;place c;way a b 9999 1;way b c 9999 1;school s at c 1;"
                + "right if far == 2 * 9999;right if far == 9999;right if far == 0;");
        y.child(0, 0, 0, 0);
        Check.due("far", y.right(0, 0, 1), 0);
        y.shut(0, 1, 1);
        y.move(0, 1, 2, false);
        y.move(0, 2, 3, false);
        Check.due("far shut", y.right(0, 1, 4), 1);
        Check.due("far moved", y.right(0, 2, 4), 1);
        Check.due("far moved", y.right(0, 3, 4), 2);
        Check.due("far moved, not known", y.right(0, 3, 2), 0);
    }

    private static void conds() {
        holds("1 < 1", false);
        holds("1 <= 1", true);
        holds("1 != 1", false);
        holds("2 < 1", false);
        holds("1 == 1 or 1 == 1 and 1 == 2", true);
        holds("1 == 2 and 1 == 1 or 1 == 1", true);
        holds("1 == 2 and 1 == 1 or 1 == 2", false);
        holds("not 1 == 2 and 1 == 2", false);
        holds("not 1 == 1 or 1 == 1", true);
        holds("not not 1 == 1", true);
        holds("not not not 1 == 1", false);
        holds("1 + 2 * 3 == 7", true);
        holds("(1 + 2) * 3 == 9", true);
        holds("9 - 3 - 2 == 4", true);
        holds("9 - (3 - 2) == 8", true);
        holds("2 * 3 - 1 == 5", true);
        holds("10 == class * 3 + needs - 1", true);
        holds("0 - 1 < 0", true);
        holds("9999 * 9999 * 22 < 0", true);
        holds("9999 * 9999 * 43 == 9999 * 417 + 3164", true);
        holds("2 * (2 * (2 * (2 * (2 * (2 * class))))) == 192", true);
        holds("(((1 + 1) * 2 + 1) * 2 + 1) * 2 == 22", true);
        holds("1-1+1-(1-(1-1))==0", true);
        holds("0 == 1 or 0 == 1 or 0 == 1 or 0 == 0", true);
    }

    private static void firstRight() {
        SchoolRides x = Check.with(MAP + "right if class < 2;right if class < 4;right if class < 3;right if needs == 1;");
        for (int grade = 0; grade < 6; grade++) {
            x.child(0, 0, grade, grade == 5 ? 1 : 0);
        }
        int[] due = {0, 0, 1, 1, -2, 3};
        for (int i = 0; i < 6; i++) {
            Check.due("right of " + i, x.right(i, 0, 6), due[i]);
        }
        Check.due("not known yet", x.right(5, 0, 5), -1);
        SchoolRides y = Check.with(MAP);
        y.child(0, 0, 0, 0);
        Check.due("no rights at all", y.right(0, 0, 1), -2);
    }

    private static void altered() {
        SchoolRides x = Check.with(MAP + "right if class < 3 and day < 10;right if 5 < class and 9 < day;right if class == 4;");
        for (int grade = 0; grade < 8; grade++) {
            x.child(0, 1, grade, 0);
        }
        Check.due("altered", x.altered(9, 10, 8), 5);
        Check.due("altered the other way", x.altered(10, 9, 8), 5);
        Check.due("alike", x.altered(3, 4, 8), 0);
        Check.due("one day", x.altered(3, 3, 8), 0);
        Check.due("fewer known", x.altered(9, 10, 2), 2);
        Check.due("none known", x.altered(9, 10, 0), 0);
        Check.due("no such n", x.altered(9, 10, 9), -1);
        Check.due("no such n", x.altered(9, 10, -1), -1);
        Check.due("no such day", x.altered(9, 365, 8), -1);
        Check.due("no such day", x.altered(-1, 9, 8), -1);
        SchoolRides y = new SchoolRides();
        Check.read(y, "right if 1==1;", 5);
        y.child(0, 0, 0, 0);
        Check.due("no text on one day", y.altered(4, 5, 1), -1);
        Check.due("no text on the other day", y.altered(5, 4, 1), -1);
        Check.read(y, "", 6);
        Check.due("by another text", y.altered(5, 6, 1), 1);
    }

    private static void stops() {
        SchoolRides x = Check.with(MAP + "stop p at b;stop q at c;stop r at a;stop t at b;walk 400;right if class != 9;");
        x.child(0, 0, 0, 0);
        x.child(1, 0, 0, 0);
        x.child(2, 0, 0, 0);
        x.child(3, 0, 0, 0);
        x.child(0, 0, 9, 0);
        x.child(0, 1, 0, 0);
        Check.due("stop at home", x.stop(0, 0, 6), 2);
        Check.due("of alike ones the first", x.stop(1, 0, 6), 0);
        Check.due("stop at home", x.stop(2, 0, 6), 1);
        Check.due("none within reach", x.stop(3, 0, 6), -2);
        Check.due("no rider", x.stop(4, 0, 6), -2);
        Check.due("no school", x.stop(5, 0, 6), -2);
        Check.due("not known", x.stop(5, 0, 5), -1);
        SchoolRides y = Check.with(MAP + "stop p at b;right if 1==1;walk 399;");
        y.child(0, 0, 0, 0);
        y.child(2, 0, 0, 0);
        Check.due("WALK 399", y.stop(0, 0, 2), -2);
        SchoolRides z = Check.with(MAP + "stop p at b;right if 1==1;walk 399;walk 400;");
        z.child(0, 0, 0, 0);
        z.child(2, 0, 0, 0);
        Check.due("WALK 400, the last one told", z.stop(0, 0, 2), 0);
        Check.due("a bad way is not walked", z.stop(1, 0, 2), -2);
        z.shut(0, 0, 0);
        Check.due("shut", z.stop(0, 0, 3), -2);
        Check.due("open again", z.stop(0, 1, 3), 0);
        SchoolRides plain = Check.with("place a;place b;place c;way a b 1000 1;way b c 1 1;school s at c 1;stop t at b;"
                + "right if 1==1;");
        plain.child(0, 0, 0, 0);
        Check.due("WALK 1000 if not told", plain.stop(0, 0, 1), 0);
        SchoolRides above = Check.with("place a;place b;place c;way a b 1001 1;way b c 1 1;school s at c 1;stop t at b;"
                + "right if 1==1;");
        above.child(0, 0, 0, 0);
        Check.due("above WALK", above.stop(0, 0, 1), -2);
    }

    private static void loads() {
        SchoolRides x = Check.with(MAP + "school z at a 1;stop p at a;stop q at c;right if class != 9;");
        x.child(0, 0, 0, 0);
        x.child(0, 0, 0, 2);
        x.child(0, 0, 0, 3);
        x.child(0, 0, 0, 1);
        x.child(0, 0, 9, 2);
        x.child(0, 1, 0, 2);
        x.child(0, 2, 0, 2);
        Check.due("load", x.load(0, 0, 0, 7), 6);
        Check.due("load", x.load(0, 1, 0, 7), 0);
        Check.due("load", x.load(1, 0, 0, 7), 2);
        Check.due("load known then", x.load(0, 0, 0, 2), 3);
        Check.due("no such school", x.load(2, 0, 0, 7), -1);
        Check.due("no such school", x.load(-1, 0, 0, 7), -1);
        Check.due("no such stop", x.load(0, 2, 0, 7), -1);
        Check.due("no such stop", x.load(0, -1, 0, 7), -1);
        Check.due("no such n", x.load(0, 0, 0, 8), -1);
        Check.due("no such day", x.load(0, 0, 365, 7), -1);
    }

    private static void wrongCalls() {
        SchoolRides x = new SchoolRides();
        x.child(0, 0, 0, 0);
        Check.due("right without a text", x.right(0, 0, 1), -1);
        Check.due("stop without a text", x.stop(0, 0, 1), -1);
        Check.due("load without a text", x.load(0, 0, 0, 1), -1);
        Check.read(x, MAP + "right if 1==1;stop p at a;", 1);
        int[][] wrong = {{0, 0, 1}, {0, 365, 1}, {0, -1, 1}, {0, 1, -1}, {0, 1, 2}, {0, 1, 0}, {1, 1, 1}, {-1, 1, 1},
            {Integer.MAX_VALUE, 1, 1}, {0, Integer.MIN_VALUE, 1}, {0, 1, Integer.MAX_VALUE}};
        for (int[] w : wrong) {
            Check.due("right", x.right(w[0], w[1], w[2]), -1);
            Check.due("stop", x.stop(w[0], w[1], w[2]), -1);
        }
        Check.due("right", x.right(0, 1, 1), 0);
        Check.due("stop", x.stop(0, 1, 1), 0);
    }
}
