/** Promises 20 to 27: routes, which of them are good, plans and the fewest. */
public final class PlanTest {
    /** A line a - b - c - d with the school at d, and e at no way; a stop at each place. */
    private static final String LINE = "place a;place b;place c;place d;place e;way a b 500 3;way b c 500 4;way c d 500 5;"
            + "school s at d 480;stop sa at a;stop sb at b;stop sc at c;stop se at e;right if 1 == 1;walk 0;";

    public static void main(String[] args) {
        routes();
        orders();
        good();
        plan();
        ties();
        noPlan();
        parted();
        wrongCalls();
        Check.finish();
    }

    private static SchoolRides line(String rules, int... homes) {
        SchoolRides x = Check.with(LINE + rules);
        for (int home : homes) {
            x.child(home, 0, 0, 0);
        }
        return x;
    }

    private static void routes() {
        SchoolRides x = line("", 0, 1, 2, 4);
        Check.due("a", x.route(0, 1, 0, 4), 12);
        Check.due("b", x.route(0, 2, 0, 4), 9);
        Check.due("a b", x.route(0, 3, 0, 4), 12);
        Check.due("a b c", x.route(0, 7, 0, 4), 12);
        Check.due("e can't be driven", x.route(0, 8, 0, 4), -2);
        Check.due("a e can't be driven", x.route(0, 9, 0, 4), -2);
        Check.due("c without riders", x.route(0, 4, 0, 2), -2);
        Check.due("a c without riders", x.route(0, 5, 0, 2), -2);
        Check.due("no set", x.route(0, 0, 0, 4), -1);
        Check.due("set of more stops", x.route(0, 16, 0, 4), -1);
        Check.due("set below 0", x.route(0, -1, 0, 4), -1);
        for (int i = 0; i < 3; i++) {
            Check.due("stop of a b c", x.routeStop(0, 7, 0, 4, i), i);
        }
        Check.due("not so many", x.routeStop(0, 7, 0, 4, 3), -1);
        Check.due("not so many", x.routeStop(0, 7, 0, 4, -1), -1);
        Check.due("none", x.routeStop(0, 8, 0, 4, 0), -1);
        Check.due("none", x.routeStop(0, 4, 0, 2, 0), -1);
        Check.due("no set", x.routeStop(0, 0, 0, 4, 0), -1);
        Check.due("set of more stops", x.routeStop(0, 16, 0, 4, 0), -1);
        Check.due("good", x.good(0, 7, 0, 4), 1);
        Check.due("good: can't be driven", x.good(0, 8, 0, 4), -2);
        Check.due("good: without riders", x.good(0, 4, 0, 2), -2);
        Check.due("good: no set", x.good(0, 0, 0, 4), -1);
        Check.due("good: no set", x.good(0, 16, 0, 4), -1);
        x.shut(1, 3, 3);
        Check.due("shut", x.route(0, 3, 3, 5), -2);
        Check.due("open", x.route(0, 3, 4, 5), 12);
    }

    /** The school lies in the midst: of orders with alike sums the first by numbers. */
    private static void orders() {
        SchoolRides x = Check.with("place a;place b;place c;place m;way a m 1 5;way b m 1 5;way c m 1 5;school s at m 1;"
                + "stop sc at c;stop sb at b;stop sa at a;stop sd at c;right if 1==1;walk 0;");
        x.child(0, 0, 0, 0);
        x.child(1, 0, 0, 0);
        x.child(2, 0, 0, 0);
        Check.due("three", x.route(0, 7, 0, 3), 25);
        for (int i = 0; i < 3; i++) {
            Check.due("first by numbers", x.routeStop(0, 7, 0, 3, i), i);
        }
        Check.due("a stop that nobody has", x.route(0, 8, 0, 3), -2);
        SchoolRides y = Check.with("place a;place b;place c;place d;way a b 1 1;way b c 1 1;way c d 1 1;school s at a 1;"
                + "stop sb at b;stop sd at d;stop sc at c;right if 1==1;walk 0;");
        y.child(1, 0, 0, 0);
        y.child(2, 0, 0, 0);
        y.child(3, 0, 0, 0);
        Check.due("by the least sum", y.route(0, 7, 0, 3), 3);
        Check.due("first", y.routeStop(0, 7, 0, 3, 0), 1);
        Check.due("second", y.routeStop(0, 7, 0, 3, 1), 2);
        Check.due("third", y.routeStop(0, 7, 0, 3, 2), 0);
        SchoolRides six = Check.with("place a;place b;way a b 1 7;school s at b 1;stop f at b;stop g at b;stop h at a;"
                + "stop i at a;right if 1==1;walk 0;");
        six.child(0, 0, 0, 0);
        six.child(1, 0, 0, 0);
        Check.due("a stop at the school", six.route(0, 1, 0, 2), 0);
        Check.due("both", six.route(0, 5, 0, 2), 7);
        Check.due("both: from far on", six.routeStop(0, 5, 0, 2, 0), 2);
    }

    private static void good() {
        SchoolRides ride = line("ride 11;", 0, 1);
        Check.due("12 minutes above RIDE", ride.good(0, 1, 0, 2), 0);
        Check.due("9 minutes", ride.good(0, 2, 0, 2), 1);
        SchoolRides just = line("ride 12;", 0, 1);
        Check.due("12 minutes", just.good(0, 3, 0, 2), 1);
        SchoolRides seats = line("seats 2;", 0, 1, 1);
        Check.due("two seats", seats.good(0, 2, 0, 3), 1);
        Check.due("three seats", seats.good(0, 3, 0, 3), 0);
        SchoolRides wide = line("seats 2;", 0);
        wide.child(0, 0, 0, 2);
        Check.due("one and two seats", wide.good(0, 1, 0, 2), 0);
        Check.due("one seat", wide.good(0, 1, 0, 1), 1);
        SchoolRides untold = line("", 0);
        for (int i = 0; i < 9; i++) {
            untold.child(0, 0, 0, 2);
        }
        Check.due("19 of 20 seats", untold.good(0, 1, 0, 10), 1);
        untold.child(1, 0, 0, 0);
        Check.due("20 of 20 seats", untold.good(0, 3, 0, 11), 1);
        untold.child(1, 0, 0, 0);
        Check.due("21 of 20 seats", untold.good(0, 3, 0, 12), 0);
        SchoolRides slow = Check.with("place a;place b;place c;way a b 1 45;way b c 1 1;school s at b 1;stop p at a;"
                + "stop q at c;right if 1==1;walk 0;");
        slow.child(0, 0, 0, 0);
        slow.child(2, 0, 0, 0);
        Check.due("RIDE 45 if not told", slow.good(0, 1, 0, 2), 1);
        Check.due("46 minutes", slow.route(0, 3, 0, 2), 47);
        Check.due("above RIDE", slow.good(0, 3, 0, 2), 0);
    }

    private static void thePlan(SchoolRides x, int n, int pay, int taxis, int... sets) {
        Check.due("pay", x.pay(0, 0, n), pay);
        Check.due("taxis", x.taxis(0, 0, n), taxis);
        Check.due("routes", x.routes(0, 0, n), sets.length);
        for (int k = 0; k < sets.length; k++) {
            Check.due("routeSet", x.routeSet(0, 0, n, k), sets[k]);
        }
        Check.due("routeSet beyond", x.routeSet(0, 0, n, sets.length), -1);
        Check.due("routeSet beyond", x.routeSet(0, 0, n, -1), -1);
    }

    private static void plan() {
        SchoolRides x = line("", 0, 1, 2);
        thePlan(x, 0, 0, 0);
        Check.due("fewest of none", x.fewest(0, 0, 0), 0);
        // TAXI 5, BUS 100 2 if not told: 5 * 12 = 60 by taxi; 60 + 45 + 25 = 130 against 100 + 24 by bus
        thePlan(x, 1, 60, 1);
        thePlan(x, 2, 105, 3);
        thePlan(x, 3, 124, 0, 7);
        Check.due("fewest", x.fewest(0, 0, 3), 1);
        SchoolRides nurse = line("", 0, 1);
        nurse.child(2, 0, 0, 1);
        nurse.child(2, 0, 0, 1);
        // by bus 124 and NURSE 30 (once); a and b by taxi 105 and c by taxi 2 * 25 = 155
        thePlan(nurse, 4, 154, 0, 7);
        SchoolRides dear = line("nurse 31;", 0, 1);
        dear.child(2, 0, 0, 1);
        dear.child(2, 0, 0, 1);
        // 155 by bus, 155 by taxi: the fewest routes; a bus for a and b, 124, and c by taxi, 50, is 174
        thePlan(dear, 4, 155, 7);
        SchoolRides split = line("seats 1;bus 0 1;taxi 99;", 0, 1, 2);
        thePlan(split, 3, 26, 0, 1, 2, 4);
        Check.due("fewest", split.fewest(0, 0, 3), 3);
        SchoolRides two = line("seats 2;bus 10 1;taxi 99;", 0, 1, 2);
        // a alone 22 and b c 19 is 41; a b 22 and c 15 is 37; a c 22 and b 19 is 41
        thePlan(two, 3, 37, 0, 3, 4);
        Check.due("fewest", two.fewest(0, 0, 3), 2);
        SchoolRides mixed = line("seats 2;bus 10 1;taxi 2;", 0, 1, 2);
        // a b 22 and c by taxi 10 is 32
        thePlan(mixed, 3, 32, 4, 3);
        SchoolRides told = line("bus 1 1;bus 200 0;taxi 1;taxi 100;", 0);
        thePlan(told, 1, 200, 0, 1);
    }

    private static void ties() {
        // a bus costs as much as the taxi: no route
        thePlan(line("bus 60 0;", 0), 1, 60, 1);
        // one dear bus or two cheap ones of alike pay can't be: each pays 10; by set: the least stop by taxi
        SchoolRides seats = line("seats 2;bus 12 0;taxi 1;", 0, 1, 2);
        // a 12, b 9, c 5 by taxi; a bus for any two costs 12: a b 12 + c 5 = 17; a c 12 + 9 = 21; b c 12 + 12 = 24
        thePlan(seats, 3, 17, 4, 3);
        SchoolRides same = Check.with("place a;place b;place c;place m;way a m 1 5;way b m 1 5;way c m 1 5;school s at m 1;"
                + "stop sa at a;stop sb at b;stop sc at c;right if 1==1;walk 0;taxi 4;bus 20 0;seats 2;");
        same.child(0, 0, 0, 0);
        same.child(1, 0, 0, 0);
        same.child(2, 0, 0, 0);
        // one bus for two stops and a taxi for the third is 40; the least stop by taxi, then the set of b and c
        thePlan(same, 3, 40, 1, 6);
        SchoolRides pairs = Check.with("place a;place b;place c;place d;place m;way a m 1 5;way b m 1 5;way c m 1 5;"
                + "way d m 1 5;school s at m 1;stop sa at a;stop sb at b;stop sc at c;stop sd at d;right if 1==1;walk 0;"
                + "taxi 90;bus 20 0;seats 2;");
        for (int i = 0; i < 4; i++) {
            pairs.child(i, 0, 0, 0);
        }
        thePlan(pairs, 4, 40, 0, 3, 12);
        pairs.part(0, 1);
        Check.due("parted: the next set", pairs.routeSet(0, 0, 5, 0), 5);
        Check.due("parted: the rest", pairs.routeSet(0, 0, 5, 1), 10);
        Check.due("not known", pairs.routeSet(0, 0, 4, 0), 3);
        // with free buses the fewest routes of alike pay
        SchoolRides free = line("bus 0 0;taxi 9;", 0, 1, 2);
        thePlan(free, 3, 0, 0, 7);
        SchoolRides nothing = line("bus 0 0;taxi 0;", 0, 1, 2);
        thePlan(nothing, 3, 0, 7);
    }

    private static void noPlan() {
        SchoolRides x = line("", 0, 4);
        Check.due("pay", x.pay(0, 0, 2), -2);
        Check.due("routes", x.routes(0, 0, 2), -2);
        Check.due("routeSet", x.routeSet(0, 0, 2, 0), -1);
        Check.due("taxis", x.taxis(0, 0, 2), -2);
        Check.due("fewest", x.fewest(0, 0, 2), -2);
        Check.due("pay known then", x.pay(0, 0, 1), 60);
        SchoolRides full = line("seats 1;", 0, 0);
        thePlan(full, 2, 120, 1);
        Check.due("fewest: the stop has too many", full.fewest(0, 0, 2), -2);
        SchoolRides far = line("ride 11;taxi 99;", 0, 1);
        thePlan(far, 2, 1188 + 118, 1, 2);
        Check.due("fewest: too far", far.fewest(0, 0, 2), -2);
        SchoolRides walker = line("", 3);
        thePlan(walker, 1, 0, 0);
        Check.due("no rider has a stop", walker.fewest(0, 0, 1), 0);
    }

    private static void parted() {
        SchoolRides x = line("taxi 99;", 0, 1, 1);
        x.child(0, 1, 0, 0);
        x.part(2, 0);
        Check.due("ahead", x.good(0, 3, 0, 4), 1);
        Check.due("parted at two stops", x.good(0, 3, 0, 5), 0);
        Check.due("each alone", x.good(0, 2, 0, 5), 1);
        x.part(1, 2);
        Check.due("parted at one stop", x.good(0, 2, 0, 6), 0);
        Check.due("the other stop", x.good(0, 1, 0, 6), 1);
        Check.due("fewest", x.fewest(0, 0, 6), -2);
        x.annul(5);
        Check.due("void", x.good(0, 2, 0, 7), 1);
        x.part(3, 0);
        Check.due("of another school", x.good(0, 1, 0, 8), 1);
        x.move(2, 2, 9, false);
        Check.due("moved away", x.good(0, 3, 9, 9), 1);
        Check.due("parted still", x.good(0, 5, 9, 9), 0);
    }

    private static void wrongCalls() {
        SchoolRides x = new SchoolRides();
        Check.read(x, LINE, 2);
        x.child(0, 0, 0, 0);
        int[][] wrong = {{-1, 2, 1}, {1, 2, 1}, {3, 2, 1}, {0, 1, 1}, {0, 365, 1}, {0, 2, 2}, {0, 2, -1}};
        for (int[] w : wrong) {
            Check.due("route", x.route(w[0], 1, w[1], w[2]), -1);
            Check.due("routeStop", x.routeStop(w[0], 1, w[1], w[2], 0), -1);
            Check.due("good", x.good(w[0], 1, w[1], w[2]), -1);
            Check.due("pay", x.pay(w[0], w[1], w[2]), -1);
            Check.due("routes", x.routes(w[0], w[1], w[2]), -1);
            Check.due("routeSet", x.routeSet(w[0], w[1], w[2], 0), -1);
            Check.due("taxis", x.taxis(w[0], w[1], w[2]), -1);
            Check.due("fewest", x.fewest(w[0], w[1], w[2]), -1);
        }
        Check.due("set of most", x.route(0, Integer.MAX_VALUE, 2, 1), -1);
        Check.due("set of least", x.good(0, Integer.MIN_VALUE, 2, 1), -1);
    }
}
