/** Routes, which of them are good, the plan and the fewest: the first half of the terms III, promises 20 to 27. */
final class RouteEdges {
    /** A line a - b - c - d of 3, 4 and 5 minutes with the school at d, e at no way; a stop at a, b, c and e. */
    private static final String LINE = "place a;place b;place c;place d;place e;way a b 500 3;way b c 500 4;way c d 500 5;"
            + "school s at d 480;stop sa at a;stop sb at b;stop sc at c;stop se at e;right if 1==1;walk 0;";

    private RouteEdges() { }

    static void all() {
        load();
        leastOrder();
        firstOrder();
        canBeDriven();
        notAboveRide();
        notAboveSeats();
        parted();
        payOfBus();
        payOfNurse();
        payOfTaxi();
        mostPay();
        eachStop();
        leastPay();
        fewestRoutes();
        leastStopByTaxi();
        leastSet();
        thenTheNextStop();
        theFewest();
        route();
        routeStop();
        good();
        planIsAsked();
        noPlan();
        refused();
        routeSets();
    }

    /** A school at m, and around it stops 0, 1, .., each 5 minutes from it; their places are 1, 2, .. . */
    static String star(int outer, String rules) {
        StringBuilder text = new StringBuilder("place m;school s at m 480;right if 1==1;walk 0;");
        for (char c = 'a'; c < 'a' + outer; c++) {
            text.append("place p").append(c).append(";way m p").append(c).append(" 1 5;stop t").append(c).append(" at p")
                    .append(c).append(';');
        }
        return text + rules;
    }

    /** Children without needs at the places of a row. */
    private static Run children(Run run, int... homes) {
        for (int home : homes) {
            run.ask("child " + home + " 0 0 0");
        }
        return run;
    }

    private static Run line(Run run, String rules, int... homes) {
        return children(run.again().read(0, LINE + rules), homes);
    }

    private static Run star(Run run, int outer, String rules, int... homes) {
        return children(run.again().read(0, star(outer, rules)), homes);
    }

    private static void plan(Run run, int n, int pay, int taxis, int... sets) {
        run.ask("pay 0 0 " + n + " = " + pay + "; taxis 0 0 " + n + " = " + taxis + "; routes 0 0 " + n + " = " + sets.length);
        for (int k = 0; k < sets.length; k++) {
            run.ask("routeSet 0 0 " + n + " " + k + " = " + sets[k]);
        }
        run.ask("routeSet 0 0 " + n + " " + sets.length + " = -1; routeSet 0 0 " + n + " -1 = -1");
    }

    private static void order(Run run, int set, int n, int minutes, int... stops) {
        run.ask("route 0 " + set + " 0 " + n + " = " + minutes);
        for (int i = 0; i < stops.length; i++) {
            run.ask("routeStop 0 " + set + " 0 " + n + " " + i + " = " + stops[i]);
        }
        run.ask("routeStop 0 " + set + " 0 " + n + " " + stops.length + " = -1; routeStop 0 " + set + " 0 " + n + " -1 = -1");
    }

    private static void load() {
        Run run = Run.of("III", "Of STOPS (bits) with RIDERS of a SCHOOL: LOAD: their SEATS (1, or 2 by NEEDS).");
        run.read(0, LINE + "seats 4;").ask("child 0 0 0 0; child 0 0 0 1; child 1 0 0 2; child 1 0 0 3; load 0 0 0 1 = 1; load 0 0 0 2 = 2",
                "load 0 1 0 3 = 2; load 0 1 0 4 = 4; load 0 2 0 4 = 0; good 0 3 0 3 = 1; good 0 3 0 4 = 0; good 0 2 0 4 = 1");
        run.again().read(0, star(6, "")).ask("child 6 0 0 2; load 0 5 0 1 = 2; route 0 32 0 1 = 5; route 0 16 0 1 = -2; route 0 33 0 1 = -2");
    }

    private static void leastOrder() {
        Run run = Run.of("III", "A ROUTE of a set of them: one STOP after the other, then the SCHOOL: the order with the least sum of MINUTES from the first one on;");
        Run line = line(run, "", 0, 1, 2);
        order(line, 1, 3, 12, 0);
        order(line, 4, 3, 5, 2);
        order(line, 6, 3, 9, 1, 2);
        order(line, 5, 3, 12, 0, 2);
        order(line, 7, 3, 12, 0, 1, 2);
        // stops told the other way round, and the school in the midst of them
        Run turned = children(run.again().read(0, "place a;place b;place c;place d;way a b 1 1;way b c 1 1;way c d 1 1;school s at a 1;"
                + "stop sb at b;stop sd at d;stop sc at c;right if 1==1;walk 0;"), 1, 2, 3);
        order(turned, 7, 3, 3, 1, 2, 0);
        order(turned, 5, 3, 2, 2, 0);
        Run midst = children(run.again().read(0, "place a;place b;place c;way a b 1 9;way b c 1 4;school s at b 1;stop sc at c;stop sa at a;"
                + "right if 1==1;walk 0;"), 0, 2);
        // from c on 4, 9 and 9 are 22, from a on 9, 4 and 4 are 17
        order(midst, 3, 2, 17, 1, 0);
        // the first leg to the first stop costs nothing, a stop at the school's place neither
        Run there = children(run.again().read(0, "place a;place b;way a b 1 7;school s at b 1;stop sb at b;stop sa at a;right if 1==1;walk 0;"), 0, 1);
        order(there, 1, 2, 0, 0);
        order(there, 3, 2, 7, 1, 0);
    }

    private static void firstOrder() {
        Run run = Run.of("III", "of alike ones the first by numbers.");
        Run six = star(run, 6, "", 1, 2, 3, 4, 5, 6);
        order(six, 63, 6, 55, 0, 1, 2, 3, 4, 5);
        order(six, 48, 6, 15, 4, 5);
        order(six, 42, 6, 25, 1, 3, 5);
        // the far stop 2 is first, then 0 and 1 are alike
        Run far = children(run.again().read(0, "place m;place a;place b;place f;way m a 1 5;way m b 1 5;way m f 1 20;school s at m 1;"
                + "stop sa at a;stop sb at b;stop sf at f;right if 1==1;walk 0;"), 1, 2, 3);
        order(far, 7, 3, 40, 2, 0, 1);
        // two stops at one place are alike, too
        Run one = children(run.again().read(0, "place m;place a;place b;way m a 1 5;way a b 1 2;school s at m 1;stop sb at b;stop sa at a;"
                + "stop m at m;right if 1==1;walk 0;".replace("stop m at", "stop sm at")), 0, 1, 2);
        order(one, 7, 3, 7, 0, 1, 2);
    }

    private static void canBeDriven() {
        Run run = Run.of("III", "GOOD: it can be driven,");
        line(run, "", 0, 4).ask("good 0 1 0 2 = 1; good 0 8 0 2 = -2; good 0 9 0 2 = -2; route 0 9 0 2 = -2; shut 2 1 1; good 0 1 1 3 = -2",
                "good 0 1 2 3 = 1; route 0 1 1 3 = -2; routeStop 0 1 1 3 0 = -1");
    }

    private static void notAboveRide() {
        Run run = Run.of("III", "that sum is not above RIDE,");
        line(run, "ride 12;", 0, 1, 2).ask("good 0 7 0 3 = 1; good 0 1 0 3 = 1; good 0 4 0 3 = 1");
        line(run, "ride 11;", 0, 1, 2).ask("good 0 7 0 3 = 0; good 0 1 0 3 = 0; good 0 6 0 3 = 1");
        line(run, "ride 5;", 0, 1, 2).ask("good 0 6 0 3 = 0; good 0 4 0 3 = 1");
        line(run, "ride 4;", 0, 1, 2).ask("good 0 4 0 3 = 0");
        children(run.again().read(0, WayEdges.line() + "school s at ql 1;stop t at qa;right if 1==1;walk 0;ride 1089;"), 0)
                .ask("good 0 1 0 1 = 1; route 0 1 0 1 = 1089");
        children(run.again().read(0, WayEdges.line() + "school s at ql 1;stop t at qa;right if 1==1;walk 0;ride 1088;"), 0).ask("good 0 1 0 1 = 0");
    }

    private static void notAboveSeats() {
        Run run = Run.of("III", "LOAD not above SEATS,");
        line(run, "seats 3;", 0, 1, 1, 2).ask("good 0 3 0 3 = 1; good 0 7 0 4 = 0; good 0 6 0 4 = 1; good 0 3 0 4 = 1; child 1 0 0 0; good 0 2 0 5 = 1",
                "good 0 3 0 5 = 0; child 1 0 0 0; good 0 2 0 6 = 0");
        Run most = line(run, "seats 40;");
        for (int i = 0; i < 20; i++) {
            most.ask("child " + i % 2 + " 0 0 2");
        }
        most.ask("good 0 3 0 20 = 1");
        Run less = line(run, "seats 39;");
        for (int i = 0; i < 20; i++) {
            less.ask("child " + i % 2 + " 0 0 2");
        }
        less.ask("good 0 3 0 20 = 0; good 0 3 0 19 = 1; good 0 1 0 20 = 1");
    }

    private static void parted() {
        Run run = Run.of("III", "no two RIDERS there are PARTED.");
        line(run, "", 0, 1, 1, 2).ask("part 3 0 = 4; good 0 5 0 4 = 1; good 0 5 0 5 = 0; good 0 7 0 5 = 0; good 0 3 0 5 = 1; good 0 6 0 5 = 1; good 0 1 0 5 = 1",
                "part 1 2; good 0 2 0 5 = 1; good 0 2 0 6 = 0; good 0 3 0 6 = 0; good 0 6 0 6 = 0; good 0 1 0 6 = 1; annul 5; good 0 2 0 7 = 1; good 0 5 0 7 = 0");
        // who is no rider, has no stop, or goes to another school is not there
        run.again().read(0, LINE.replace("1==1", "class<9") + "school z at d 480;").ask("child 0 0 0 0; child 0 0 9 0; child 3 0 0 0; child 0 1 0 0",
                "part 0 1; part 0 2; part 0 3; part 3 0; good 0 1 0 8 = 1; good 1 1 0 8 = 1; part 2 0; good 0 1 0 9 = 1",
                "move 2 0 1 false; good 0 1 0 10 = 1; good 0 1 1 10 = 0");
    }

    private static void payOfBus() {
        Run run = Run.of("III", "PAY: BUS's first INT, and the second one times the sum;");
        line(run, "taxi 9999;bus 7 3;", 0, 1, 2).ask("pay 0 0 1 = 43; pay 0 0 3 = 43; routes 0 0 3 = 1");
        line(run, "taxi 9999;bus 7 0;", 0).ask("pay 0 0 1 = 7");
        line(run, "taxi 9999;bus 0 3;", 0).ask("pay 0 0 1 = 36");
        line(run, "taxi 9999;bus 0 0;", 0).ask("pay 0 0 1 = 0; routes 0 0 1 = 1");
        line(run, "taxi 9999;bus 7 3;seats 1;", 0, 1, 2).ask("pay 0 0 3 = 99; routes 0 0 3 = 3");
    }

    private static void payOfNurse() {
        Run run = Run.of("III", "NURSE more if a RIDER there needs one.");
        run.read(0, LINE + "taxi 9999;bus 7 3;nurse 50;").ask("child 0 0 0 0; child 0 0 0 2; child 1 0 0 1; child 1 0 0 1; child 0 0 0 3",
                "pay 0 0 2 = 43; pay 0 0 3 = 93; pay 0 0 4 = 93; pay 0 0 5 = 93");
        run.again().read(0, LINE + "taxi 9999;bus 7 3;nurse 50;seats 1;").ask("child 0 0 0 1; child 1 0 0 1; child 2 0 0 0",
                "pay 0 0 1 = 93; pay 0 0 2 = 177; pay 0 0 3 = 199");
        run.again().read(0, LINE + "taxi 9999;bus 7 3;nurse 0;").ask("child 0 0 0 1; pay 0 0 1 = 43");
        // by taxi a nurse costs nothing more
        run.again().read(0, LINE + "nurse 50;").ask("child 0 0 0 1; pay 0 0 1 = 60; taxis 0 0 1 = 1");
    }

    private static void payOfTaxi() {
        Run run = Run.of("III", "By TAXI a STOP costs TAXI times its RIDERS times MINUTES to the SCHOOL.");
        run.read(0, LINE + "taxi 3;bus 9999 0;").ask("child 0 0 0 0; child 0 0 0 3; child 1 0 0 2; child 2 0 0 1; pay 0 0 1 = 36; pay 0 0 2 = 72; pay 0 0 3 = 99",
                "pay 0 0 4 = 114; taxis 0 0 4 = 7; routes 0 0 4 = 0");
        line(run, "taxi 0;bus 0 0;", 0, 1).ask("pay 0 0 2 = 0; taxis 0 0 2 = 3");
        children(run.again().read(0, "place a;school s at a 1;stop t at a;right if 1==1;taxi 9999;bus 0 0;"), 0).ask("pay 0 0 1 = 0; taxis 0 0 1 = 1; routes 0 0 1 = 0");
    }

    private static void mostPay() {
        Run run = Run.of("III", "with the least PAY of all;");
        String most = WayEdges.line() + "school s at ql 1;stop t at qa;right if 1==1;walk 0;taxi 9999;ride 9999;nurse 9999;bus 9999 9999;";
        Run seats = run.read(0, most + "seats 19;");
        for (int i = 0; i < 20; i++) {
            seats.ask("child 0 0 0 " + (i == 18 ? 1 : 0));
        }
        // by bus 9999 and 9999 * 1089 and, from the 19th on, 9999 more
        plan(seats, 1, 10888911, 1);
        plan(seats, 2, 10898910, 0, 1);
        plan(seats, 19, 10908909, 0, 1);
        plan(seats, 20, 217778220, 1);
        seats.ask("fewest 0 0 20 = -2; fewest 0 0 19 = 1");
        StringBuilder six = new StringBuilder(WayEdges.line()).append("school s at ql 1;right if 1==1;walk 0;taxi 9999;ride 9999;bus 9999 9999;seats 2;");
        for (char c = 'a'; c < 'g'; c++) {
            six.append("stop t").append(c).append(" at q").append(c).append(';');
        }
        Run each = run.again().read(0, six.toString());
        for (int i = 0; i < 12; i++) {
            each.ask("child " + i / 2 + " 0 0 0");
        }
        plan(each, 12, 9999 * (1089 + 990 + 891 + 792 + 693 + 594) + 6 * 9999, 0, 1, 2, 4, 8, 16, 32);
    }

    private static void eachStop() {
        Run run = Run.of("III", "THE PLAN of a SCHOOL: each of its STOPS that have RIDERS is on one GOOD ROUTE, or by TAXI,");
        Run line = line(run, "", 0, 1, 2, 3);
        plan(line, 0, 0, 0);
        plan(line, 1, 60, 1);
        plan(line, 2, 105, 3);
        plan(line, 3, 124, 0, 7);
        plan(line, 4, 124, 0, 7);
        // not on a route that is not good
        plan(line(run, "ride 11;taxi 99;bus 10 1;", 0, 1, 2), 3, 99 * 12 + 19, 1, 6);
        plan(line(run, "seats 1;taxi 99;bus 10 1;", 0, 0, 2), 3, 99 * 24 + 15, 1, 4);
        plan(line(run, "taxi 99;bus 10 1;", 0, 2).ask("part 0 1"), 3, 22 + 15, 0, 1, 4);
    }

    private static void leastPay() {
        Run run = Run.of("III", "with the least PAY of all;");
        plan(line(run, "bus 59 0;", 0), 1, 59, 0, 1);
        plan(line(run, "bus 60 0;", 0), 1, 60, 1);
        plan(line(run, "bus 61 0;", 0), 1, 60, 1);
        // a and b by bus and c by taxi: 102 + 24 + 25; all by bus 126
        plan(line(run, "bus 102 2;", 0, 1, 2), 3, 126, 0, 7);
        // all by bus are 34 and the nurse, without c 34 and 10 by taxi
        plan(line(run, "bus 10 2;nurse 9;taxi 2;", 0, 1).ask("child 2 0 0 1"), 3, 43, 0, 7);
        plan(line(run, "bus 10 2;nurse 10;taxi 2;", 0, 1).ask("child 2 0 0 1"), 3, 44, 4, 3);
        plan(line(run, "bus 10 2;nurse 11;taxi 2;", 0, 1).ask("child 2 0 0 1"), 3, 44, 4, 3);
        plan(line(run, "bus 10 2;nurse 11;taxi 3;", 0, 1).ask("child 2 0 0 1"), 3, 45, 0, 7);
        plan(line(run, "bus 10 2;nurse 17;taxi 3;", 0, 1).ask("child 2 0 0 1"), 3, 34 + 15, 4, 3);
    }

    private static void fewestRoutes() {
        Run run = Run.of("III", "of alike ones with the fewest ROUTES;");
        // one route for both takes 15 minutes, one for each 5
        plan(star(run, 2, "taxi 9999;bus 4 1;", 1, 2), 2, 18, 0, 1, 2);
        plan(star(run, 2, "taxi 9999;bus 5 1;", 1, 2), 2, 20, 0, 3);
        plan(star(run, 2, "taxi 9999;bus 6 1;", 1, 2), 2, 21, 0, 3);
        plan(star(run, 2, "taxi 4;bus 20 0;seats 1;", 1, 2), 2, 40, 3);
        plan(star(run, 2, "taxi 4;bus 19 0;seats 1;", 1, 2), 2, 38, 0, 1, 2);
        plan(star(run, 3, "taxi 0;bus 0 0;", 1, 2, 3), 3, 0, 7);
        // stop 1 can be by taxi alone; 0 and 2 are as dear by bus
        plan(star(run, 3, "taxi 4;bus 20 0;seats 1;", 1, 2, 2, 3), 4, 80, 7);
    }

    private static void leastStopByTaxi() {
        Run run = Run.of("III", "of these: the least STOP is by TAXI, if it can be so,");
        plan(star(run, 3, "taxi 4;bus 20 0;seats 2;", 1, 2, 3), 3, 40, 1, 6);
        plan(star(run, 5, "taxi 4;bus 20 0;seats 2;", 1, 2, 3, 4, 5), 5, 60, 1, 6, 24);
        // stop 0 has two riders: it is on the bus with the one or the other
        plan(star(run, 3, "taxi 4;bus 20 0;seats 3;", 1, 1, 2, 3), 4, 40, 4, 3);
    }

    private static void leastSet() {
        Run run = Run.of("III", "else on the ROUTE with the least set (bits),");
        Run pairs = star(run, 4, "taxi 99;bus 20 0;seats 2;", 1, 2, 3, 4);
        plan(pairs, 4, 40, 0, 3, 12);
        plan(pairs.ask("part 0 1"), 5, 40, 0, 5, 10);
        plan(pairs.ask("part 2 0"), 6, 40, 0, 9, 6);
        plan(pairs, 4, 40, 0, 3, 12);
        // alone, set 1, is less than with stop 1, set 3
        plan(star(run, 4, "taxi 99;bus 20 0;seats 3;", 1, 1, 2, 3, 4), 5, 40, 0, 1, 14);
        plan(star(run, 3, "taxi 99;bus 20 0;seats 3;", 1, 2, 3, 3), 4, 40, 0, 1, 6);
        plan(star(run, 3, "taxi 99;bus 20 0;seats 3;", 1, 2, 3, 3, 3), 5, 40, 0, 3, 4);
    }

    private static void thenTheNextStop() {
        Run run = Run.of("III", "then the least STOP that is left, and so on.");
        plan(star(run, 4, "taxi 4;bus 20 0;seats 2;", 1, 1, 2, 3, 4), 5, 60, 2, 1, 12);
        plan(star(run, 6, "taxi 99;bus 20 0;seats 2;", 1, 2, 3, 4, 5, 6), 6, 60, 0, 3, 12, 48);
        Run apart = star(run, 6, "taxi 99;bus 20 0;seats 2;", 1, 2, 3, 4, 5, 6).ask("part 0 1; part 2 3");
        plan(apart, 8, 60, 0, 5, 10, 48);
        Run.of("III", "ROUTES are numbered as they come so.");
        // by their least stops, not by their sets: 33 comes ahead of 6 and 24
        Run ends = star(run, 6, "taxi 99;bus 20 0;seats 2;", 1, 2, 3, 4, 5, 6).ask("part 0 1; part 0 2; part 0 3; part 0 4");
        plan(ends, 10, 60, 0, 33, 6, 24);
        plan(star(run, 6, "taxi 99;bus 20 0;seats 1;", 1, 2, 3, 4, 5, 6), 6, 120, 0, 1, 2, 4, 8, 16, 32);
    }

    private static void theFewest() {
        Run run = Run.of("III", "THE FEWEST: as few GOOD ROUTES as can be with which no STOP is by TAXI.");
        star(run, 5, "seats 2;taxi 0;", 1, 2, 3, 4, 5).ask("fewest 0 0 0 = 0; fewest 0 0 1 = 1; fewest 0 0 2 = 1; fewest 0 0 3 = 2; fewest 0 0 4 = 2",
                "fewest 0 0 5 = 3; routes 0 0 5 = 0; part 0 1; part 0 2; part 0 3; part 0 4; fewest 0 0 9 = 3");
        star(run, 6, "seats 1;", 1, 2, 3, 4, 5, 6).ask("fewest 0 0 6 = 6; child 6 0 0 0; fewest 0 0 7 = -2");
        star(run, 6, "seats 6;ride 55;", 1, 2, 3, 4, 5, 6).ask("fewest 0 0 6 = 1");
        star(run, 6, "seats 6;ride 54;", 1, 2, 3, 4, 5, 6).ask("fewest 0 0 6 = 2");
        star(run, 6, "ride 4;", 1).ask("fewest 0 0 1 = -2; pay 0 0 1 = 25");
    }

    private static void route() {
        Run run = Run.of("20", "The sum of MINUTES of the ROUTE of a set (1 and more) of a SCHOOL's STOPS;");
        line(run, "", 0, 1, 2).ask("route 0 1 0 3 = 12; route 0 2 0 3 = 9; route 0 4 0 3 = 5; route 0 7 0 3 = 12; route 0 0 0 3 = -1; route 0 -1 0 3 = -1",
                "route 0 15 0 3 = -2; route 0 16 0 3 = -1; route 0 17 0 3 = -1; route 0 63 0 3 = -1; route 0 MAX 0 3 = -1; route 0 MIN 0 3 = -1");
        star(run, 6, "", 1, 2, 3, 4, 5, 6).ask("route 0 63 0 6 = 55; route 0 64 0 6 = -1; route 0 32 0 6 = 5; route 0 127 0 6 = -1");
        children(run.again().read(0, "place a;school s at a 1;right if 1==1;"), 0).ask("route 0 1 0 1 = -1; route 0 0 0 1 = -1");
        Run not = Run.of("20", "-2: it can't be driven, a STOP without RIDERS;");
        line(not, "", 0, 2, 4).ask("route 0 8 0 3 = -2; route 0 9 0 3 = -2; route 0 2 0 3 = -2; route 0 3 0 3 = -2; route 0 10 0 3 = -2; route 0 5 0 3 = 12",
                "route 0 5 0 1 = -2; route 0 1 0 0 = -2; move 0 1 7 true; route 0 1 6 4 = 12; route 0 1 7 4 = -2; route 0 2 7 4 = 9; route 0 1 14 4 = 12");
        line(Run.of("20", "NONE: no such ones."), "", 0).ask("route -1 1 0 1 = -1; route 1 1 0 1 = -1; route 3 1 0 1 = -1; route MAX 1 0 1 = -1",
                "route 0 1 -1 1 = -1; route 0 1 365 1 = -1; route 0 1 0 -1 = -1; route 0 1 0 2 = -1; route 0 1 364 1 = 12; route MIN 1 0 1 = -1",
                "route 0 1 MAX 1 = -1; route 0 1 0 MIN = -1; route 1 2 0 1 = -1; route 0 0 0 1 = -1; route 0 16 0 1 = -1");
    }

    private static void routeStop() {
        Run six = star(Run.of("21", "The i-th STOP of it;"), 6, "", 1, 2, 3, 4, 5, 6);
        order(six, 63, 6, 55, 0, 1, 2, 3, 4, 5);
        order(six, 32, 6, 5, 5);
        line(Run.of("21", "NONE: not so many, none, no such ones."), "", 0, 1, 4).ask("routeStop 0 3 0 3 0 = 0; routeStop 0 3 0 3 1 = 1; routeStop 0 3 0 3 2 = -1",
                "routeStop 0 3 0 3 -1 = -1; routeStop 0 3 0 3 5 = -1; routeStop 0 3 0 3 6 = -1; routeStop 0 3 0 3 MAX = -1; routeStop 0 3 0 3 MIN = -1",
                "routeStop 0 8 0 3 0 = -1; routeStop 0 4 0 3 0 = -1; routeStop 0 7 0 3 0 = -1; routeStop 0 0 0 3 0 = -1; routeStop 0 16 0 3 0 = -1",
                "routeStop 0 -1 0 3 0 = -1; routeStop 0 MAX 0 3 0 = -1; routeStop 0 MIN 0 3 0 = -1; routeStop 1 1 0 3 0 = -1; routeStop -1 1 0 3 0 = -1",
                "routeStop 0 1 365 3 0 = -1; routeStop 0 1 -1 3 0 = -1; routeStop 0 1 0 4 0 = -1; routeStop 0 1 0 -1 0 = -1; routeStop 0 1 364 3 0 = 0");
    }

    private static void good() {
        Run run = Run.of("22", "1 if it is GOOD, else 0;");
        line(run, "ride 9;", 0, 1).ask("good 0 2 0 2 = 1; good 0 1 0 2 = 0; good 0 3 0 2 = 0");
        line(Run.of("22", "-2, NONE likewise."), "ride 9;", 0, 1, 4).ask("good 0 4 0 3 = -2; good 0 6 0 3 = -2; good 0 8 0 3 = -2; good 0 9 0 3 = -2",
                "good 0 0 0 3 = -1; good 0 16 0 3 = -1; good 0 -1 0 3 = -1; good 0 MAX 0 3 = -1; good 0 MIN 0 3 = -1; good 1 1 0 3 = -1; good -1 1 0 3 = -1",
                "good 0 1 365 3 = -1; good 0 1 -1 3 = -1; good 0 1 0 4 = -1; good 0 1 0 -1 = -1; good 0 2 364 3 = 1");
    }

    private static void planIsAsked() {
        line(Run.of("23", "PAY of THE PLAN;"), "", 0, 1, 2).ask("pay 0 0 0 = 0; pay 0 0 1 = 60; pay 0 0 3 = 124; pay 0 364 3 = 124");
        Run two = Run.of("23", "PAY of THE PLAN;").read(0, LINE + "school z at a 480;").ask("child 0 0 0 0; child 1 1 0 0; child 1 1 0 0");
        two.ask("pay 0 0 3 = 60; pay 1 0 3 = 30; taxis 0 0 3 = 1; taxis 1 0 3 = 2; pay 0 0 3 = 60; pay 1 0 1 = 0");
        star(Run.of("24", "How many ROUTES THE PLAN has;"), 6, "taxi 99;seats 1;", 1, 2, 3, 4, 5, 6).ask("routes 0 0 6 = 6; routes 0 0 5 = 5; routes 0 0 0 = 0");
        star(Run.of("26", "The set of STOPS that are by TAXI in THE PLAN;"), 6, "taxi 0;", 1, 2, 3, 4, 5, 6).ask("taxis 0 0 6 = 63; taxis 0 0 0 = 0; taxis 0 0 1 = 1")
                .again().read(0, star(6, "taxi 0;")).ask("child 6 0 0 0; taxis 0 0 1 = 32");
        star(Run.of("27", "THE FEWEST;"), 2, "seats 1;", 1, 2).ask("fewest 0 0 0 = 0; fewest 0 0 1 = 1; fewest 0 0 2 = 2");
    }

    private static void noPlan() {
        Run run = Run.of("23", "-2: there is none;");
        String none = "pay 0 0 2 = -2; routes 0 0 2 = -2; taxis 0 0 2 = -2; fewest 0 0 2 = -2; routeSet 0 0 2 0 = -1; pay 0 0 1 = 60; taxis 0 0 1 = 1";
        line(run, "", 0, 4).ask(none);
        line(run, "taxi 0;bus 0 0;", 0, 4).ask("pay 0 0 2 = -2; routes 0 0 1 = 0; pay 0 0 1 = 0");
        line(run, "", 0).ask("shut 0 3 5; pay 0 2 2 = 60; pay 0 3 2 = -2; pay 0 5 2 = -2; pay 0 6 2 = 60; pay 0 3 1 = 60; routes 0 3 2 = -2; taxis 0 3 2 = -2",
                "fewest 0 3 2 = -2; fewest 0 2 2 = 1; routes 0 2 2 = 0; taxis 0 2 2 = 1");
        line(Run.of("24", "-2,"), "", 4).ask("routes 0 0 1 = -2; routes 0 0 0 = 0");
        line(Run.of("26", "-2,"), "", 4).ask("taxis 0 0 1 = -2; taxis 0 0 0 = 0");
        line(Run.of("27", "-2: it can't be;"), "seats 1;", 0, 0, 4).ask("fewest 0 0 1 = 1; fewest 0 0 2 = -2; pay 0 0 2 = 120; fewest 0 0 3 = -2; pay 0 0 3 = -2");
    }

    private static void refused() {
        String[] promises = {"23", "24", "26", "27"};
        String[] sentences = {"NONE: no TEXT IN FORCE, no such n, SCHOOL.", "NONE likewise.", "NONE as pay().", "NONE as pay()."};
        String[] names = {"pay", "routes", "taxis", "fewest"};
        for (int i = 0; i < names.length; i++) {
            Run run = Run.of(promises[i], sentences[i]).ask("child 0 0 0 0; " + names[i] + " 0 0 1 = -1").read(5, LINE);
            for (String wrong : new String[] {"0 4 1", "0 365 1", "0 -1 1", "0 MAX 1", "0 MIN 1", "0 5 2", "0 5 -1", "0 5 MAX", "0 5 MIN",
                "1 5 1", "2 5 1", "3 5 1", "-1 5 1", "MAX 5 1", "MIN 5 1"}) {
                run.ask(names[i] + " " + wrong + " = -1");
            }
            run.ask(names[i] + " 0 5 0 = 0; pay 0 5 1 = 60; pay 0 364 1 = 60");
            run.again().read(0, "place a;").ask(names[i] + " 0 0 0 = -1");
            run.again().read(0, "place a;school s at a 1;school t at a 1;school u at a 1;").ask(names[i] + " 2 0 0 = 0; " + names[i] + " 3 0 0 = -1");
        }
    }

    private static void routeSets() {
        star(Run.of("25", "The set of STOPS of its k-th ROUTE;"), 6, "taxi 99;seats 2;bus 20 0;", 1, 2, 3, 4, 5, 6).ask("routeSet 0 0 6 0 = 3; routeSet 0 0 6 1 = 12",
                "routeSet 0 0 6 2 = 48; routeSet 0 0 1 0 = 1; routeSet 0 0 2 0 = 3");
        Run run = Run.of("25", "NONE: not so many, none, no such ones.").ask("routeSet 0 0 0 0 = -1").read(5, LINE + "taxi 99;bus 20 0;")
                .ask("child 0 0 0 0; child 4 0 0 0; routeSet 0 5 1 0 = 1; routeSet 0 5 1 1 = -1; routeSet 0 5 1 -1 = -1; routeSet 0 5 1 MAX = -1",
                        "routeSet 0 5 1 MIN = -1; routeSet 0 5 1 6 = -1; routeSet 0 5 0 0 = -1; routeSet 0 5 2 0 = -1; routeSet 0 5 3 0 = -1; routeSet 0 5 -1 0 = -1",
                        "routeSet 0 4 1 0 = -1; routeSet 0 365 1 0 = -1; routeSet 1 5 1 0 = -1; routeSet -1 5 1 0 = -1; routeSet 3 5 1 0 = -1; routeSet MAX 5 1 0 = -1");
        line(run, "taxi 99;bus 20 0;", 0, 1).ask("shut 1 3 3; routeSet 0 2 3 0 = 3; routes 0 2 3 = 1; routeSet 0 3 3 0 = -1; routes 0 3 3 = -2; taxis 0 3 3 = -2; pay 0 3 3 = -2",
                "routeSet 0 4 3 0 = 3; routeSet 0 3 2 0 = 3");
        star(run, 6, "taxi 99;seats 1;", 1, 2, 3, 4, 5, 6).ask("routeSet 0 0 6 5 = 32; routeSet 0 0 6 6 = -1; routeSet 0 0 6 7 = -1");
    }
}
