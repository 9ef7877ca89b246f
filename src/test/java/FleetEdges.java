/** Buses one route behind the other, and bells shifted: the end of the terms III, promises 28 to 30. */
final class FleetEdges {
    private static final String RULES = "right if 1==1;walk 0;taxi 9999;bus 0 0;seats 1;";

    private FleetEdges() { }

    static void all() {
        endsAtTheBell();
        notAboveTheBeginning();
        alikeBells();
        fewestBuses();
        chains();
        putBells();
        leastFleet();
        leastSum();
        firstOfAlike();
        fleet();
        shifted();
        shift();
    }

    /** Schools at m and n, 50 minutes from each other; stop p is a minute from m, q a minute from n. */
    private static Run far(Run run, int bell, int other) {
        return run.again().read(0, "place m;place n;place p;place q;way m n 1 50;way p m 1 1;way q n 1 1;school sm at m " + bell
                + ";school sn at n " + other + ";stop tp at p;stop tq at q;" + RULES).ask("child 2 0 0 0; child 3 1 0 0");
    }

    private static void endsAtTheBell() {
        Run run = Run.of("III", "BELLS: a ROUTE ends at its SCHOOL's BELL and begins its sum of MINUTES ahead.");
        // at m at 480, at q at 531, at n at 532; and the other way round
        far(run, 480, 532).ask("fleet 0 2 = 1; route 1 2 0 2 = 1");
        far(run, 480, 531).ask("fleet 0 2 = 2");
        far(run, 532, 480).ask("fleet 0 2 = 1");
        far(run, 531, 480).ask("fleet 0 2 = 2");
        far(run, 0, 52).ask("fleet 0 2 = 1");
        far(run, 0, 51).ask("fleet 0 2 = 2");
        far(run, 1439, 1387).ask("fleet 0 2 = 1");
        far(run, 1439, 1388).ask("fleet 0 2 = 2");
        far(run, 0, 1439).ask("fleet 0 2 = 1");
        // a route may begin ahead of the day
        far(run, 0, 0).ask("fleet 0 1 = 1; fleet 0 2 = 2");
    }

    private static void notAboveTheBeginning() {
        Run run = Run.of("III", "A bus can do ROUTE y behind x if x's BELL and MINUTES from x's SCHOOL to y's first STOP are not above y's beginning");
        // y goes from b, the far stop, by a: 9 minutes in all; from s to b are 8
        String map = "place s;place a;place b;place t;way s b 1 8;way b a 1 4;way a t 1 5;school x at s 480;school y at t ";
        String stops = ";stop ta at a;stop tb at b;stop ts at s;right if 1==1;walk 0;taxi 9999;bus 0 1;seats 3;";
        run.read(0, map + 497 + stops).ask("child 1 0 0 0; child 1 1 0 0; child 2 1 0 0; routeStop 1 3 0 3 0 = 1; route 1 3 0 3 = 9; routes 1 0 3 = 1; fleet 0 3 = 1",
                "fleet 0 2 = 1");
        run.again().read(0, map + 496 + stops).ask("child 1 0 0 0; child 1 1 0 0; child 2 1 0 0; fleet 0 3 = 2");
        // by the ways of the day, as known then
        far(run, 480, 532).ask("shut 0 5 5; fleet 5 3 = 2; fleet 4 3 = 1; fleet 5 2 = 1; annul 2; fleet 5 4 = 1");
    }

    private static void alikeBells() {
        Run run = Run.of("III", "(of alike BELLS only if x is ahead of y: by SCHOOL, then number).");
        // a stop at the school's own place costs nothing by taxi, so it is on no route and needs no bus
        run.read(0, "place m;school s at m 480;school t at m 480;stop a at m;stop b at m;" + RULES).ask("child 0 0 0 0; child 0 1 0 0",
                "taxis 0 0 2 = 1; routes 1 0 2 = 0; fleet 0 2 = 0; shifted 0 2 = 0");
        run.again().read(0, "place m;place p;way m p 1 1;school s at m 480;school t at m 480;stop a at p;" + RULES).ask("child 1 0 0 0; child 1 1 0 0",
                "fleet 0 1 = 1; fleet 0 2 = 2");
        run.again().read(0, "place m;place p;way m p 1 1;school s at m 480;school t at m 482;stop a at p;" + RULES).ask("child 1 0 0 0; child 1 1 0 0",
                "fleet 0 2 = 1");
    }

    /** Three schools at one place and six stops 5 minutes away. */
    private static String around(int bell, int second, int third) {
        StringBuilder text = new StringBuilder("place m;");
        for (char c = 'a'; c < 'g'; c++) {
            text.append("place p").append(c).append(";way m p").append(c).append(" 1 5;stop t").append(c).append(" at p").append(c).append(';');
        }
        return text + "school a at m " + bell + ";school b at m " + second + ";school c at m " + third + ";" + RULES;
    }

    /** As many children as are wanted, up to six of each school: each has a route of 5 minutes of its own. */
    private static Run three(Run run, int bell, int second, int third, int children) {
        Run x = run.again().read(0, around(bell, second, third));
        for (int i = 0; i < children; i++) {
            x.ask("child " + (1 + i % 6) + " " + i / 6 + " 0 0");
        }
        return x;
    }

    private static void fewestBuses() {
        Run run = Run.of("III", "THE FLEET: the fewest buses that do all ROUTES of all PLANS.");
        three(run, 480, 490, 500, 18).ask("fleet 0 18 = 6; fleet 0 0 = 0; fleet 0 1 = 1; fleet 0 6 = 6; fleet 0 7 = 6; fleet 0 12 = 6; routes 2 0 18 = 6");
        three(run, 480, 489, 499, 18).ask("fleet 0 18 = 12; fleet 0 12 = 12; fleet 0 9 = 9");
        three(run, 480, 480, 480, 18).ask("fleet 0 18 = 18; fleet 0 17 = 17");
        three(run, 480, 489, 490, 18).ask("fleet 0 18 = 12; fleet 0 12 = 12; fleet 0 14 = 12");
        three(run, 500, 480, 490, 18).ask("fleet 0 18 = 6");
        three(run, 490, 500, 480, 13).ask("fleet 0 13 = 6; shut 0 0 0; fleet 0 14 = -2; fleet 1 14 = 6");
    }

    /** School 0's bus could go on by p or by q, school 2's by p alone: so the first one goes on by q. */
    private static void chains() {
        Run run = Run.of("III", "THE FLEET: the fewest buses");
        Run x = run.read(0, "place m;place p;place q;place n;place o;way m p 1 10;way m q 1 10;way p n 1 5;way q n 1 5;way o p 1 4;"
                + "school a at m 480;school b at n 500;school c at o 486;stop tp at p;stop tq at q;stop to at o;" + RULES);
        x.ask("child 4 0 0 0; child 1 1 0 0; child 2 1 0 0; child 1 2 0 0; route 0 4 0 4 = 14; route 1 1 0 4 = 5; route 1 2 0 4 = 5; route 2 1 0 4 = 4",
                "fleet 0 1 = 1; fleet 0 2 = 1; fleet 0 3 = 2; fleet 0 4 = 2; shut 1 5 5; shut 3 5 5; fleet 5 6 = -2; fleet 5 4 = 2",
                "shut 1 6 6; fleet 6 7 = 3; fleet 7 7 = 2");
        // school 0's bus may go on by p, q or r, both of school 2 by p alone: one of them ends there
        run.again().read(0, "place m;place p;place q;place n;place o;place r;way m p 1 10;way m q 1 10;way m r 1 10;way p n 1 5;way q n 1 5;way r n 1 5;way o p 1 4;"
                + "school a at m 480;school b at n 500;school c at o 486;stop tp at p;stop tq at q;stop tr at r;stop to at o;" + RULES)
                .ask("child 4 0 0 0; child 1 1 0 0; child 2 1 0 0; child 5 1 0 0; child 1 2 0 0; child 2 2 0 0; fleet 0 4 = 3; fleet 0 5 = 3; fleet 0 6 = 4");
    }

    private static void putBells() {
        Run run = Run.of("III", "SHIFTS: each SCHOOL's BELL is put by 10 * (-2 .. 2):");
        far(run, 480, 492).ask("fleet 0 2 = 2; shifted 0 2 = 1; shift 0 0 2 = -20; shift 1 0 2 = 20");
        far(run, 480, 491).ask("fleet 0 2 = 2; shifted 0 2 = 2; shift 0 0 2 = 0; shift 1 0 2 = 0");
        far(run, 492, 480).ask("fleet 0 2 = 2; shifted 0 2 = 1; shift 0 0 2 = 20; shift 1 0 2 = -20");
        far(run, 491, 480).ask("fleet 0 2 = 2; shifted 0 2 = 2; shift 0 0 2 = 0; shift 1 0 2 = 0");
        far(run, 480, 493).ask("shifted 0 2 = 1; shift 0 0 2 = -20; shift 1 0 2 = 20");
        far(run, 480, 501).ask("shifted 0 2 = 1; shift 0 0 2 = -20; shift 1 0 2 = 20");
        // a bell may be put out of the day
        far(run, 0, 12).ask("shifted 0 2 = 1; shift 0 0 2 = -20; shift 1 0 2 = 20");
        far(run, 1439, 1427).ask("shifted 0 2 = 1; shift 0 0 2 = 20; shift 1 0 2 = -20");
    }

    private static void leastFleet() {
        Run run = Run.of("III", "those with the least FLEET;");
        three(run, 480, 480, 480, 18).ask("shifted 0 18 = 6; shift 0 0 18 = -10; shift 1 0 18 = 0; shift 2 0 18 = 10");
        three(run, 480, 489, 499, 18).ask("shifted 0 18 = 6; shift 0 0 18 = -10; shift 1 0 18 = 0; shift 2 0 18 = 0");
        three(run, 480, 490, 499, 18).ask("shifted 0 18 = 6; shift 0 0 18 = 0; shift 1 0 18 = 0; shift 2 0 18 = 10");
        // 18 routes of three schools of which none is soon enough at another
        Run apart = run.again().read(0, WayEdges.line() + "school a at qc 480;school b at qf 480;school c at qi 480;stop ta at qa;stop tb at qb;stop td at qd;stop te at qe;"
                + "stop tg at qg;stop th at qh;ride 999;" + RULES);
        for (int i = 0; i < 18; i++) {
            apart.ask("child " + new int[] {0, 1, 3, 4, 6, 7}[i / 3] + " " + i % 3 + " 0 0");
        }
        apart.read(10, around(480, 480, 480)).ask("shifted 10 18 = 4; shift 0 10 18 = -10; shift 1 10 18 = 0; shift 2 10 18 = 10");
        apart.ask("routes 0 0 18 = 6; routes 1 0 18 = 6; routes 2 0 18 = 6; fleet 0 18 = 18; shifted 0 18 = 18; shift 0 0 18 = 0; shift 1 0 18 = 0; shift 2 0 18 = 0");
        // the plans are those of the bells told, and the fleet too
        three(run, 480, 480, 480, 18).ask("fleet 0 18 = 18; shifted 0 18 = 6; fleet 0 18 = 18; pay 0 0 18 = 0; routes 0 0 18 = 6");
    }

    private static void leastSum() {
        Run run = Run.of("III", "of alike ones with the least sum of minutes put either way;");
        far(run, 480, 522).ask("shifted 0 2 = 1; shift 0 0 2 = -10; shift 1 0 2 = 0");
        far(run, 480, 521).ask("shifted 0 2 = 1; shift 0 0 2 = -20; shift 1 0 2 = 0");
        far(run, 480, 512).ask("shifted 0 2 = 1; shift 0 0 2 = -20; shift 1 0 2 = 0");
        far(run, 480, 511).ask("shifted 0 2 = 1; shift 0 0 2 = -20; shift 1 0 2 = 10");
        far(run, 480, 502).ask("shifted 0 2 = 1; shift 0 0 2 = -20; shift 1 0 2 = 10");
        far(run, 480, 532).ask("shifted 0 2 = 1; shift 0 0 2 = 0; shift 1 0 2 = 0");
        far(run, 480, 900).ask("shifted 0 2 = 1; shift 0 0 2 = 0; shift 1 0 2 = 0; shifted 0 1 = 1; shift 0 0 1 = 0; shifted 0 0 = 0; shift 0 0 0 = 0");
        // with three schools it is better to put the midmost one not at all
        three(run, 480, 480, 485, 18).ask("shifted 0 18 = 6; shift 0 0 18 = -10; shift 1 0 18 = 0; shift 2 0 18 = 10");
        // where nothing is to gain none is put
        three(run, 480, 500, 510, 18).ask("fleet 0 18 = 6; shift 0 0 18 = 0; shift 1 0 18 = 0; shift 2 0 18 = 0");
    }

    private static void firstOfAlike() {
        Run run = Run.of("III", "of these the first (SCHOOL 0's least, then 1's, ..).");
        // -10 and 0, or 0 and 10
        far(run, 480, 525).ask("shift 0 0 2 = -10; shift 1 0 2 = 0");
        // 0 and -10, or 10 and 0
        far(run, 525, 480).ask("shift 0 0 2 = 0; shift 1 0 2 = -10");
        // -20 and 10, or -10 and 20; and the other way round -10, 20 and 10, -20 and ..
        far(run, 480, 503).ask("shift 0 0 2 = -20; shift 1 0 2 = 10");
        far(run, 503, 480).ask("shift 0 0 2 = 10; shift 1 0 2 = -20");
        // without routes of school 0: of 1 and 2
        Run later = three(run, 480, 480, 480, 0).ask("child 1 1 0 0; child 2 2 0 0; fleet 0 2 = 2; shifted 0 2 = 1; shift 0 0 2 = 0; shift 1 0 2 = -10; shift 2 0 2 = 0");
        later.ask("child 3 0 0 0; shifted 0 3 = 1; shift 0 0 3 = -10; shift 1 0 3 = 0; shift 2 0 3 = 10");
    }

    private static void fleet() {
        three(Run.of("28", "THE FLEET;"), 480, 490, 500, 18).ask("fleet 0 18 = 6; fleet 364 18 = 6; fleet 0 0 = 0")
                .again().read(0, "place m;").ask("fleet 0 0 = 0; child 0 0 0 0; fleet 0 1 = 0");
        Run none = Run.of("28", "-2: some SCHOOL has no PLAN;");
        String lost = "place m;place p;place e;way m p 1 5;school a at m 480;school b at e 480;school c at m 480;stop t at p;" + RULES;
        none.read(0, lost).ask("child 1 0 0 0; child 1 1 0 0; fleet 0 1 = 1; fleet 0 2 = -2; pay 0 0 2 = 0; pay 1 0 2 = -2; shut 0 5 5; fleet 5 1 = 1; fleet 5 3 = -2");
        none.again().read(0, lost).ask("child 1 2 0 0; shut 0 5 5; fleet 4 2 = 1; fleet 5 2 = -2; fleet 6 2 = 1; child 1 1 0 0; fleet 4 3 = -2");
        Run.of("28", "NONE: no TEXT IN FORCE, no such n.").ask("fleet 0 0 = -1").read(5, "place m;school a at m 480;").ask("fleet 4 0 = -1; fleet 5 0 = 0; fleet 364 0 = 0",
                "fleet 365 0 = -1; fleet -1 0 = -1; fleet MAX 0 = -1; fleet MIN 0 = -1; fleet 5 1 = -1; fleet 5 -1 = -1; fleet 5 MAX = -1; fleet 5 MIN = -1");
    }

    private static void shifted() {
        three(Run.of("29", "THE FLEET with SHIFTS;"), 480, 480, 480, 18).ask("shifted 0 18 = 6; shifted 364 18 = 6; shifted 0 0 = 0; shifted 0 7 = 6; shifted 0 18 = 6");
        Run.of("29", "-2, NONE likewise.").ask("shifted 0 0 = -1").read(5, "place m;place p;place e;way m p 1 5;school a at m 480;school b at e 480;stop t at p;" + RULES)
                .ask("child 1 0 0 0; child 1 1 0 0; shifted 5 1 = 1; shifted 5 2 = -2; shifted 4 0 = -1; shifted 364 0 = 0; shifted 365 0 = -1; shifted -1 0 = -1",
                        "shifted MAX 0 = -1; shifted MIN 0 = -1; shifted 5 3 = -1; shifted 5 -1 = -1; shifted 5 MAX = -1; shifted 5 MIN = -1")
                .again().read(0, "place m;").ask("shifted 0 0 = 0");
    }

    private static void shift() {
        three(Run.of("30", "By how many minutes a SCHOOL's BELL is put by SHIFTS;"), 480, 489, 499, 18).ask("shift 0 0 18 = -10; shift 1 0 18 = 0; shift 2 0 18 = 0",
                "shift 0 0 12 = -10; shift 0 0 6 = 0; shift 0 364 18 = -10; shift 2 0 0 = 0");
        Run.of("30", "-100: likewise, no such SCHOOL.").ask("shift 0 0 0 = -100").read(5, "place m;place p;place e;way m p 1 5;school a at m 480;school b at e 480;"
                + "stop t at p;" + RULES).ask("child 1 0 0 0; child 1 1 0 0; shift 0 5 1 = 0; shift 1 5 1 = 0; shift 2 5 1 = -100; shift 3 5 1 = -100; shift -1 5 1 = -100",
                        "shift MAX 5 1 = -100; shift MIN 5 1 = -100; shift 0 5 2 = -100; shift 1 5 2 = -100; shift 2 5 2 = -100; shift 0 4 1 = -100; shift 0 365 1 = -100",
                        "shift 0 -1 1 = -100; shift 0 5 3 = -100; shift 0 5 -1 = -100; shift 0 MAX 1 = -100; shift 0 5 MIN = -100; shift 0 364 0 = 0")
                .again().read(0, "place m;").ask("shift 0 0 0 = -100");
    }
}
