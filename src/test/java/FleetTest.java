/** Promises 28 to 30: buses for all routes, and bells shifted. */
public final class FleetTest {
    private static final String RULES = "right if 1==1;walk 0;taxi 999;bus 0 0;seats 1;";

    public static void main(String[] args) {
        oneBehindTheOther();
        alikeBells();
        shifts();
        ties();
        asManyRoutesAsCanBe();
        noPlan();
        wrongCalls();
        Check.finish();
    }

    /** Two schools at m and n, 10 minutes from each other; stop p is 6 minutes from m, q 7 from n, 4 from m. */
    private static SchoolRides two(int bell, int other, String rules) {
        SchoolRides x = Check.with("place m;place n;place p;place q;way m n 1 10;way p m 1 6;way q n 1 7;way q m 1 4;"
                + "school sm at m " + bell + ";school sn at n " + other + ";stop tp at p;stop tq at q;" + RULES + rules);
        x.child(2, 0, 0, 0);
        x.child(3, 1, 0, 0);
        return x;
    }

    private static void oneBehindTheOther() {
        // the bus is at m at 480, at q at 484, and at n at 491
        Check.due("just in time", two(480, 491, "").fleet(0, 2), 1);
        Check.due("a minute short", two(480, 490, "").fleet(0, 2), 2);
        Check.due("alike bells", two(480, 480, "").fleet(0, 2), 2);
        // from n to p are 16 minutes, and 6 more to m
        Check.due("the other way just in time", two(502, 480, "").fleet(0, 2), 1);
        Check.due("the other way a minute short", two(501, 480, "").fleet(0, 2), 2);
        Check.due("one route", two(480, 480, "").fleet(0, 1), 1);
        Check.due("no route", two(480, 480, "").fleet(0, 0), 0);
        Check.due("by taxi", two(480, 480, "taxi 0;").fleet(0, 2), 0);
        SchoolRides x = two(480, 491, "");
        x.shut(3, 4, 4);
        // q is reached by n alone: 480 + 17 + 7
        Check.due("shut", x.fleet(4, 3), 2);
        Check.due("open", x.fleet(5, 3), 1);
        Check.due("not known", x.fleet(4, 2), 1);
    }

    /** A stop at the school's own place costs nothing by taxi, so there is no route of no minutes. */
    private static void alikeBells() {
        SchoolRides x = Check.with("place m;school s at m 480;school t at m 480;stop a at m;stop b at m;" + RULES);
        x.child(0, 0, 0, 0);
        x.child(0, 1, 0, 0);
        Check.due("by taxi for nothing", x.taxis(0, 0, 2), 1);
        Check.due("fleet", x.fleet(0, 2), 0);
        // the other bus would have to be at p again by the time the first one is at school
        SchoolRides y = Check.with("place m;place p;way m p 1 1;school s at m 480;stop a at p;stop b at p;" + RULES);
        y.child(1, 0, 0, 0);
        Check.due("fleet", y.fleet(0, 1), 1);
    }

    private static void shifts() {
        SchoolRides x = two(480, 490, "");
        Check.due("shifted", x.shifted(0, 2), 1);
        Check.due("school 0 sooner", x.shift(0, 0, 2), -10);
        Check.due("school 1 stays", x.shift(1, 0, 2), 0);
        SchoolRides y = two(480, 461, "");
        // school 0 is 3 minutes short of being second: 0 and -10 come ahead of 10 and 0
        Check.due("shifted", y.shifted(0, 2), 1);
        Check.due("school 0 by its least", y.shift(0, 0, 2), 0);
        Check.due("school 1", y.shift(1, 0, 2), -10);
        SchoolRides far = two(480, 471, "");
        // behind it: 20 minutes more; ahead of it: 13 more, that is 20
        Check.due("shifted", far.shifted(0, 2), 1);
        Check.due("first of alike ones", far.shift(0, 0, 2), -20);
        Check.due("and the other", far.shift(1, 0, 2), 0);
        SchoolRides none = two(480, 700, "");
        Check.due("nothing to gain", none.shifted(0, 2), 1);
        Check.due("stays", none.shift(0, 0, 2), 0);
        Check.due("stays", none.shift(1, 0, 2), 0);
        Check.due("no routes", none.shifted(0, 0), 0);
        Check.due("no routes: stays", none.shift(1, 0, 0), 0);
        Check.due("one route: stays", none.shift(0, 0, 1), 0);
        // bells may be put below 0
        SchoolRides early = two(5, 15, "");
        Check.due("early", early.shifted(0, 2), 1);
        Check.due("early", early.shift(0, 0, 2), -10);
    }

    /** Three schools at one place, each with a route of 5 minutes from a stop 5 minutes away. */
    private static void ties() {
        SchoolRides x = Check.with("place m;place p;way m p 1 5;school a at m 480;school b at m 480;school c at m 480;"
                + "stop t at p;" + RULES);
        x.child(1, 0, 0, 0);
        x.child(1, 1, 0, 0);
        x.child(1, 2, 0, 0);
        Check.due("fleet", x.fleet(0, 3), 3);
        Check.due("shifted", x.shifted(0, 3), 1);
        int[] due = {-10, 0, 10};
        for (int i = 0; i < 3; i++) {
            Check.due("shift", x.shift(i, 0, 3), due[i]);
        }
        // two buses at least: each school has two routes at a time
        SchoolRides pairs = Check.with("place m;place p;place q;way m p 1 5;way m q 1 5;school a at m 480;school b at m 485;"
                + "school c at m 480;stop t at p;stop u at q;" + RULES);
        for (int i = 0; i < 6; i++) {
            pairs.child(1 + i % 2, i / 2, 0, 0);
        }
        Check.due("fleet of six routes", pairs.fleet(0, 6), 6);
        Check.due("shifted", pairs.shifted(0, 6), 2);
        int[] puts = {-10, 10, 0};
        // a at 470, c at 480, b at 495, or c at 470 and a at 480: each 10 minutes apart, the first by school 0
        for (int i = 0; i < 3; i++) {
            Check.due("shift of pairs", pairs.shift(i, 0, 6), puts[i]);
        }
        x.move(0, 0, 7, false);
        Check.due("without school 0's rider", x.fleet(7, 4), 2);
        Check.due("shifted", x.shifted(7, 4), 1);
        Check.due("school 0 stays", x.shift(0, 7, 4), 0);
        Check.due("school 1 sooner", x.shift(1, 7, 4), -10);
        Check.due("school 2 stays", x.shift(2, 7, 4), 0);
    }

    /** Three schools at one place, six stops 5 minutes away, a route for each: 18 routes. */
    private static SchoolRides star(int bell, int second, int third) {
        StringBuilder text = new StringBuilder("place m;");
        for (char c = 'a'; c < 'g'; c++) {
            text.append("place p").append(c).append(";way m p").append(c).append(" 1 5;stop t").append(c).append(" at p")
                    .append(c).append(';');
        }
        text.append("school a at m ").append(bell).append(";school b at m ").append(second).append(";school c at m ")
                .append(third).append(';').append(RULES);
        SchoolRides x = Check.with(text.toString());
        for (int i = 0; i < 18; i++) {
            x.child(1 + i % 6, i / 6, 0, 0);
        }
        return x;
    }

    private static void asManyRoutesAsCanBe() {
        SchoolRides apart = star(480, 490, 500);
        Check.due("routes", apart.routes(2, 0, 18), 6);
        Check.due("fleet", apart.fleet(0, 18), 6);
        Check.due("shifted", apart.shifted(0, 18), 6);
        SchoolRides short0 = star(480, 489, 499);
        Check.due("a minute short", short0.fleet(0, 18), 12);
        Check.due("shifted", short0.shifted(0, 18), 6);
        Check.due("school 0 sooner", short0.shift(0, 0, 18), -10);
        Check.due("school 1 stays", short0.shift(1, 0, 18), 0);
        Check.due("school 2 stays", short0.shift(2, 0, 18), 0);
        SchoolRides alike = star(480, 480, 480);
        Check.due("fleet", alike.fleet(0, 18), 18);
        Check.due("shifted", alike.shifted(0, 18), 6);
        Check.due("known then", alike.fleet(0, 7), 7);
        for (int school = 0; school < 3; school++) {
            Check.due("shift", alike.shift(school, 0, 18), 10 * school - 10);
        }
    }

    private static void noPlan() {
        SchoolRides x = Check.with("place m;place p;place e;way m p 1 5;school a at m 480;school b at e 480;stop t at p;" + RULES);
        x.child(1, 0, 0, 0);
        x.child(1, 1, 0, 0);
        Check.due("school 1 has no plan", x.fleet(0, 2), -2);
        Check.due("shifted", x.shifted(0, 2), -2);
        Check.due("shift", x.shift(0, 0, 2), -100);
        Check.due("shift", x.shift(1, 0, 2), -100);
        Check.due("known then", x.fleet(0, 1), 1);
        Check.due("known then", x.shifted(0, 1), 1);
        Check.due("known then", x.shift(1, 0, 1), 0);
        // a child of a school that the text has not is nobody's rider
        x.child(1, 2, 0, 0);
        Check.due("no such school", x.shift(2, 0, 1), -100);
        SchoolRides empty = Check.with("place m;");
        Check.due("no schools", empty.fleet(0, 0), 0);
        Check.due("no schools", empty.shifted(0, 0), 0);
        Check.due("no schools", empty.shift(0, 0, 0), -100);
    }

    private static void wrongCalls() {
        SchoolRides x = new SchoolRides();
        Check.read(x, "place m;school a at m 480;", 5);
        int[][] wrong = {{4, 0}, {365, 0}, {-1, 0}, {5, 1}, {5, -1}, {Integer.MIN_VALUE, 0}, {5, Integer.MAX_VALUE}};
        for (int[] w : wrong) {
            Check.due("fleet", x.fleet(w[0], w[1]), -1);
            Check.due("shifted", x.shifted(w[0], w[1]), -1);
            Check.due("shift", x.shift(0, w[0], w[1]), -100);
        }
        Check.due("shift of no school", x.shift(-1, 5, 0), -100);
        Check.due("shift of no school", x.shift(1, 5, 0), -100);
        Check.due("shift of no school", x.shift(3, 5, 0), -100);
        Check.due("shift", x.shift(0, 5, 0), 0);
    }
}
