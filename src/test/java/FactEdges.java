/** What is told of children, ways and passes: the first half of the terms II, promises 6 to 11 and 13. */
final class FactEdges {
    private FactEdges() { }

    static void all() {
        factsAreNumbered();
        hundredFacts();
        knownByN();
        child();
        grades();
        needs();
        childrenAreNumbered();
        childPromise();
        twentyChildren();
        move();
        weeks();
        movePromise();
        shut();
        part();
        tap();
        voids();
        voidsAreKnown();
        homeByWeeks();
        homeByTheLastDay();
        homeAsAtFirst();
        homePromise();
    }

    /** Two children and 98 facts more, of every kind: there are 100. */
    private static Run full(String section, String sentence) {
        Run run = Run.of(section, sentence).read(0, Rich.TEXT).ask("child 0 0 0 0 = 0; child 1 0 0 0 = 1; move 0 1 0 false = 2; move 1 2 0 true = 3",
                "shut 0 0 9 = 4; part 0 1 = 5; tap 0 0 7 480 = 6; tap 0 1 7 481 = 7; annul 4 = 8");
        for (int i = 9; i < 100; i++) {
            run.ask("shut " + (i == 99 ? 1 : 23) + " 0 364 = " + i);
        }
        return run.ask("count 1 = 100; count 2 = 2");
    }

    private static void factsAreNumbered() {
        Run.of("II", "FACTS, numbered from 0 on,").ask("shut 0 0 0 = 0; child 0 0 0 0 = 0; shut 0 0 0 = 2; child 0 0 0 0 = 1",
                "move 0 1 0 false = 4; move 0 1 0 true = 5; part 0 1 = 6; tap 0 0 0 0 = 7; annul 0 = 8; shut 0 0 0 = 9",
                "count 1 = 10; count 2 = 2");
    }

    private static void hundredFacts() {
        full("II", "100 at most;").refuse("child 0 0 0 0 = -1; move 0 0 0 false = -1; move 0 0 0 true = -1; shut 0 0 0 = -1",
                "part 0 1 = -1; tap 0 0 0 0 = -1; annul 50 = -1; annul 99 = -1").ask("home 1 0 100 = 1; lent 100 = 1");
        // all that hangs on facts, with a hundred of them
        Run run = Run.of("II", "100 at most;").read(0, Rich.TEXT).ask("child 0 0 0 0; child 1 0 0 0");
        for (int i = 2; i < 97; i++) {
            run.ask("shut 23 0 364 = " + i);
        }
        run.ask("part 0 1 = 97; tap 0 0 0 0 = 98; move 0 2 0 true = 99; good 0 3 0 97 = 1; good 0 3 0 98 = 0; good 0 3 0 100 = 0; pay 0 0 100 = 162",
                "home 0 7 100 = 2; home 0 7 99 = 0; dist 0 1 0 0 100 = 400; row 0 1 0 0 100 1 = 1; lent 100 = 0; right 0 0 100 = 0; stop 0 7 100 = 2",
                "load 0 0 7 100 = 0; load 0 0 0 100 = 1; fleet 0 100 = 0; shifted 0 100 = 0; shift 0 0 100 = 0; altered 0 7 100 = 0; taxis 0 0 100 = 3; fewest 0 0 100 = 2");
    }

    private static void knownByN() {
        Run run = Run.of("II", "KNOWN by n: the first n of them.").read(0, Rich.TEXT);
        run.ask("child 0 0 0 0; child 1 0 0 0; move 0 2 0 false; move 1 0 0 true; shut 0 0 9; part 0 1; tap 0 0 7 480",
                "tap 0 1 7 481; annul 4; count 1 = 9");
        run.ask("home 0 0 0 = -1; home 0 0 1 = 0; home 0 0 2 = 0; home 0 0 3 = 2; home 0 0 9 = 2; home 1 7 1 = -1",
                "home 1 7 2 = 1; home 1 7 3 = 1; home 1 7 4 = 0; home 1 7 9 = 0; home 1 7 10 = -1; home 1 7 -1 = -1");
        run.ask("dist 0 1 0 0 4 = 400; dist 0 1 0 0 5 = 1400; dist 0 1 0 0 8 = 1400; dist 0 1 0 0 9 = 400; dist 0 1 0 0 10 = -1");
        run.ask("lent 6 = 0; lent 7 = 0; lent 8 = 1; lent 9 = 1; lent 10 = -1; lent 0 = 0; lent -1 = -1");
        // on day 0 both children are at two stops: a and b ahead of fact 2, then c and b
        run.ask("good 0 3 0 2 = 1; good 0 6 0 5 = 1; good 0 6 0 6 = 0; right 0 0 0 = -1; right 1 0 1 = -1; right 1 0 2 = 0");
    }

    private static void child() {
        Run.of("II", "CHILD: a home PLACE (0 .. 11), a SCHOOL (0 .. 2), a CLASS (0 .. 12),").ask("child 0 0 0 0 = 0",
                "child 11 0 0 0 = 1; child 0 2 0 0 = 2; child 0 0 12 0 = 3; home 0 0 4 = 0; home 1 0 4 = 11")
                .refuse("child -1 0 0 0 = -1; child 12 0 0 0 = -1; child 0 -1 0 0 = -1; child 0 3 0 0 = -1",
                        "child 0 0 -1 0 = -1; child 0 0 13 0 = -1");
    }

    private static void grades() {
        Run.of("II", "a CLASS (0 .. 12),").read(0, "right if class==0;right if class==12;right if 12<class;")
                .ask("child 0 0 0 0; child 0 0 12 0; child 0 0 11 0; right 0 0 3 = 0; right 1 0 3 = 1; right 2 0 3 = -2");
    }

    private static void needs() {
        Run run = Run.of("II", "NEEDS (bit 0: a NURSE, bit 1: two SEATS);").read(0, "place a;place b;way a b 1 7;"
                + "school s at b 480;stop t at a;walk 0;taxi 9999;nurse 1000;right if needs==3;right if needs==2;"
                + "right if needs==1;right if needs==0;");
        run.ask("child 0 0 0 0; child 0 0 0 1; child 0 0 0 2; child 0 0 0 3")
                .refuse("child 0 0 0 -1 = -1; child 0 0 0 4 = -1; child 0 0 0 MAX = -1; child 0 0 0 MIN = -1")
                .ask("right 0 0 4 = 3; right 1 0 4 = 2; right 2 0 4 = 1; right 3 0 4 = 0")
                .ask("load 0 0 0 0 = 0; load 0 0 0 1 = 1; load 0 0 0 2 = 2; load 0 0 0 3 = 4; load 0 0 0 4 = 6")
                .ask("pay 0 0 1 = 114; pay 0 0 2 = 1114; pay 0 0 3 = 1114; pay 0 0 4 = 1114");
        run.again().read(0, "place a;place b;way a b 1 7;school s at b 480;stop t at a;walk 0;taxi 9999;nurse 1000;right if 1<2;")
                .ask("child 0 0 0 2; pay 0 0 1 = 114; load 0 0 0 1 = 2; child 0 0 0 3; pay 0 0 2 = 1114; load 0 0 0 2 = 4");
    }

    private static void childrenAreNumbered() {
        Run run = Run.of("II", "CHILDREN, 20 at most, are numbered from 0 on.");
        for (int i = 0; i < 20; i++) {
            run.ask("count 2 = " + i + "; child " + i % 12 + " 0 0 0 = " + i + "; shut 0 0 0 = " + (2 * i + 1));
        }
        run.refuse("child 0 0 0 0 = -1; child 11 2 12 3 = -1").ask("count 2 = 20; count 1 = 40; home 19 0 40 = 7; home 20 0 40 = -1")
                .ask("home 19 0 38 = -1; home 19 0 39 = 7; move 19 3 0 false = 40; move 20 3 0 false = -1");
    }

    private static void childPromise() {
        Run.of("6", "A CHILD: its number.").ask("child 5 1 2 0 = 0; shut 0 0 0 = 1; shut 0 0 0 = 2; child 5 1 2 0 = 1; count 2 = 2");
        full("6", "NONE, and nothing happens: 100 FACTS,").refuse("child 0 0 0 0 = -1; child 11 2 12 3 = -1").ask("count 2 = 2");
        Rich.tell(Run.of("6", "no such ones.")).refuse("child -1 0 0 0 = -1; child 12 0 0 0 = -1; child MAX 0 0 0 = -1",
                "child MIN 0 0 0 = -1; child 0 -1 0 0 = -1; child 0 3 0 0 = -1; child 0 MAX 0 0 = -1; child 0 MIN 0 0 = -1",
                "child 0 0 -1 0 = -1; child 0 0 13 0 = -1; child 0 0 MAX 0 = -1; child 0 0 MIN 0 = -1; child 0 0 0 -1 = -1",
                "child 0 0 0 4 = -1; child 0 0 0 MAX = -1; child 0 0 0 MIN = -1").ask("child 11 2 12 3 = 6; child 0 0 0 0 = 7");
    }

    private static void twentyChildren() {
        Run run = Run.of("6", "20 CHILDREN are there,");
        for (int i = 0; i < 20; i++) {
            run.ask("child 0 0 0 0 = " + i);
        }
        run.refuse("child 0 0 0 0 = -1").ask("count 1 = 20; shut 0 0 0 = 20").refuse("child 0 0 0 0 = -1").ask("count 2 = 20");
    }

    private static void move() {
        Run.of("II", "MOVE: a CHILD's home is another PLACE from a DAY on;").ask("child 3 0 0 0; child 4 0 0 0; move 0 5 10 false = 2",
                "home 0 0 3 = 3; home 0 9 3 = 3; home 0 10 3 = 5; home 0 11 3 = 5; home 0 364 3 = 5; home 1 10 3 = 4")
                .ask("move 1 0 0 false; home 1 0 4 = 0; move 1 11 364 false; home 1 363 5 = 0; home 1 364 5 = 11");
    }

    /** Days 7 to 13 are the first odd week, 357 to 363 the last one; 364 is in an even one. */
    private static void weeks() {
        Run.of("II", "WEEKS: in odd weeks (DAY / 7 odd) it is another PLACE from a DAY on.").ask("child 3 0 0 0; move 0 5 0 true = 1",
                "home 0 0 2 = 3; home 0 6 2 = 3; home 0 7 2 = 5; home 0 13 2 = 5; home 0 14 2 = 3; home 0 20 2 = 3; home 0 21 2 = 5",
                "home 0 27 2 = 5; home 0 28 2 = 3; home 0 356 2 = 3; home 0 357 2 = 5; home 0 363 2 = 5; home 0 364 2 = 3")
                .again().ask("child 3 0 0 0; move 0 5 9 true; home 0 7 2 = 3; home 0 8 2 = 3; home 0 9 2 = 5; home 0 13 2 = 5",
                        "home 0 14 2 = 3; home 0 21 2 = 5")
                .again().ask("child 3 0 0 0; move 0 5 14 true; home 0 13 2 = 3; home 0 14 2 = 3; home 0 20 2 = 3; home 0 21 2 = 5")
                .again().ask("child 3 0 0 0; move 0 5 363 true; home 0 362 2 = 3; home 0 363 2 = 5; home 0 364 2 = 3")
                .again().ask("child 3 0 0 0; move 0 5 364 true; home 0 363 2 = 3; home 0 364 2 = 3");
    }

    private static void movePromise() {
        Run.of("7", "MOVE (weeks: WEEKS): the FACT's number.").ask("child 0 0 0 0 = 0; child 0 0 0 0 = 1; move 0 0 0 false = 2",
                "move 1 11 364 true = 3; move 0 0 0 true = 4; move 1 11 364 false = 5; home 0 7 6 = 0");
        full("7", "NONE, and nothing happens: 100 are there,").refuse("move 0 1 0 false = -1; move 1 1 0 true = -1");
        String wrong = "-1 0 0;6 0 0;20 0 0;MAX 0 0;MIN 0 0;0 -1 0;0 12 0;0 MAX 0;0 MIN 0;0 0 -1;0 0 365;0 0 MAX;0 0 MIN";
        Run run = Rich.tell(Run.of("7", "no such CHILD, PLACE, DAY."));
        for (String one : wrong.split(";")) {
            run.refuse("move " + one + " false = -1; move " + one + " true = -1");
        }
        run.ask("move 5 11 364 false = 16; move 0 0 0 true = 17; home 5 364 18 = 11");
        run.again().refuse("move 0 0 0 false = -1; move 0 0 0 true = -1");
    }

    private static void shut() {
        Run.of("II", "SHUT: a WAY (0 .. 23) on DAYS a .. b.").read(0, "place a;place b;" + "way a b 5 1;".repeat(22)
                + "way a b 4 1;way a b 3 1;").ask("shut 23 10 12; shut 22 11 11; shut 0 0 364; dist 0 1 0 9 3 = 3; dist 0 1 0 10 3 = 4",
                "dist 0 1 0 11 3 = 5; dist 0 1 0 12 3 = 4; dist 0 1 0 13 3 = 3; shut 23 0 0; shut 23 364 364",
                "dist 0 1 0 0 5 = 4; dist 0 1 0 1 5 = 3; dist 0 1 0 363 5 = 3; dist 0 1 0 364 5 = 4");
        Run.of("8", "SHUT: likewise;").ask("shut 0 0 0 = 0; shut 23 364 364 = 1; shut 5 0 364 = 2");
        full("8", "SHUT: likewise;").refuse("shut 0 0 0 = -1; shut 23 0 364 = -1");
        Rich.tell(Run.of("8", "no such WAY, DAYS,")).refuse("shut -1 0 0 = -1; shut 24 0 0 = -1; shut MAX 0 0 = -1; shut MIN 0 0 = -1",
                "shut 0 -1 0 = -1; shut 0 0 365 = -1; shut 0 365 365 = -1; shut 0 -1 -1 = -1; shut 0 MIN 0 = -1; shut 0 0 MAX = -1",
                "shut 0 MIN MAX = -1").ask("shut 23 0 364 = 16");
        Rich.tell(Run.of("8", "b below a.")).refuse("shut 0 5 4 = -1; shut 0 1 0 = -1; shut 0 364 363 = -1; shut 0 364 0 = -1",
                "shut 0 0 -1 = -1").ask("shut 0 5 5 = 16; shut 0 5 6 = 17; shut 0 364 364 = 18");
    }

    private static void part() {
        Run.of("II", "PARTED: two CHILDREN.").read(0, Rich.TEXT).ask("child 0 0 0 0; child 1 0 0 0; child 2 0 0 0; good 0 7 0 3 = 1",
                "part 1 0 = 3; good 0 3 0 4 = 0; good 0 7 0 4 = 0; good 0 5 0 4 = 1; good 0 6 0 4 = 1; part 0 1 = 4; good 0 3 0 5 = 0");
        // a TAP at stop 1 parts nobody from child 1, and who is PARTED has no TAP
        Run.of("II", "PARTED: two CHILDREN.").read(0, Rich.TEXT).ask("child 0 0 0 0; child 1 0 0 0; tap 0 1 0 0; tap 0 1 7 0; good 0 3 0 4 = 1; good 0 3 7 4 = 1")
                .again().read(0, Rich.TEXT).ask("child 0 0 0 0; child 1 0 0 0; tap 0 0 0 0; part 0 1; part 1 0; lent 5 = 0; lent 4 = 0");
        Run.of("9", "PARTED: likewise;").ask("child 0 0 0 0; child 0 0 0 0; part 0 1 = 2; part 1 0 = 3; part 0 1 = 4");
        full("9", "PARTED: likewise;").refuse("part 0 1 = -1; part 1 0 = -1");
        Rich.tell(Run.of("9", "no such CHILDREN,")).refuse("part -1 0 = -1; part 0 -1 = -1; part 6 0 = -1; part 0 6 = -1; part MAX 0 = -1",
                "part 0 MIN = -1; part 5 6 = -1; part 6 7 = -1").ask("part 5 0 = 16; part 0 5 = 17");
        Run.of("9", "no such CHILDREN,").refuse("part 0 1 = -1").ask("child 0 0 0 0").refuse("part 0 1 = -1; part 1 0 = -1")
                .ask("child 0 0 0 0; part 0 1 = 2");
        Rich.tell(Run.of("9", "one and the same.")).refuse("part 0 0 = -1; part 5 5 = -1; part 6 6 = -1; part -1 -1 = -1");
    }

    private static void tap() {
        Run.of("II", "TAP: a CHILD's pass at a STOP (0 .. 5), a DAY, a minute.").read(0, "place a;" + "stop sa at a;stop sb at a;")
                .ask("child 0 0 0 0; tap 0 5 364 1439 = 1; tap 0 5 364 0 = 2; lent 3 = 1; tap 0 0 0 0 = 3; tap 0 1 0 0 = 4; lent 5 = 1");
        Run.of("10", "TAP: likewise;").ask("child 0 0 0 0; tap 0 0 0 0 = 1; tap 0 5 364 1439 = 2; tap 0 5 364 1439 = 3");
        full("10", "TAP: likewise;").refuse("tap 0 0 0 0 = -1; tap 1 5 364 1439 = -1");
        Rich.tell(Run.of("10", "no such CHILD, STOP, DAY, minute (0 .. 1439).")).refuse("tap -1 0 0 0 = -1; tap 6 0 0 0 = -1",
                "tap MAX 0 0 0 = -1; tap MIN 0 0 0 = -1; tap 0 -1 0 0 = -1; tap 0 6 0 0 = -1; tap 0 MAX 0 0 = -1; tap 0 MIN 0 0 = -1",
                "tap 0 0 -1 0 = -1; tap 0 0 365 0 = -1; tap 0 0 MAX 0 = -1; tap 0 0 MIN 0 = -1; tap 0 0 0 -1 = -1; tap 0 0 0 1440 = -1",
                "tap 0 0 0 MAX = -1; tap 0 0 0 MIN = -1").ask("tap 5 5 364 1439 = 16; tap 0 0 0 0 = 17");
        Run.of("10", "no such CHILD,").refuse("tap 0 0 0 0 = -1");
    }

    private static void voids() {
        Run.of("II", "VOID: of another FACT (no CHILD, no VOID),").ask("child 3 0 0 0; child 3 0 0 0; move 0 4 0 false; move 0 5 0 true",
                "shut 0 0 0; part 0 1; tap 0 0 0 0; annul 6 = 7; annul 5 = 8; annul 4 = 9; annul 3 = 10; annul 2 = 11",
                "annul 0 = -1; annul 1 = -1; annul 7 = -1; annul 11 = -1; count 1 = 12");
        Run.of("11", "VOID: likewise;").ask("shut 0 0 0; annul 0 = 1; shut 0 0 0 = 2; annul 2 = 3; annul 2 = 4; count 1 = 5");
        full("11", "VOID: likewise;").refuse("annul 2 = -1; annul 3 = -1; annul 4 = -1; annul 5 = -1; annul 6 = -1; annul 7 = -1; annul 9 = -1; annul 99 = -1",
                "annul 0 = -1; annul 8 = -1; annul 100 = -1");
        Rich.tell(Run.of("11", "no such FACT, a CHILD, a VOID.")).refuse("annul -1 = -1; annul 16 = -1; annul MAX = -1; annul MIN = -1",
                "annul 100 = -1; annul 0 = -1; annul 5 = -1; annul 11 = -1").ask("annul 15 = 16; annul 6 = 17")
                .refuse("annul 16 = -1; annul 17 = -1; annul 18 = -1");
        Run.of("11", "no such FACT,").refuse("annul 0 = -1; annul 1 = -1; annul -1 = -1");
    }

    private static void voidsAreKnown() {
        Run run = Run.of("II", "which is none then for those who KNOW the VOID.").read(0, Rich.TEXT);
        run.ask("child 3 0 0 0; child 2 0 0 0; move 0 1 0 false; move 0 2 0 true; shut 0 0 9; part 0 1; tap 0 0 7 480; tap 0 2 7 480",
                "annul 2; annul 3; annul 4; annul 5; annul 7; count 1 = 13");
        run.ask("home 0 0 8 = 1; home 0 0 9 = 3; home 0 7 9 = 2; home 0 7 10 = 3; dist 0 1 0 0 10 = 1400; dist 0 1 0 0 11 = 400")
                .ask("good 0 6 0 8 = 0; good 0 6 0 9 = -2; lent 12 = 1; lent 13 = 0; home 0 0 13 = 3");
        run.again().read(0, Rich.TEXT).ask("child 1 0 0 0; child 2 0 0 0; part 0 1; annul 2; good 0 6 0 3 = 0; good 0 6 0 4 = 1",
                "part 1 0; good 0 6 0 5 = 0; annul 4; annul 2; good 0 6 0 6 = 1; good 0 6 0 7 = 1; good 0 6 0 3 = 0; good 0 6 0 5 = 0");
    }

    private static void homeByWeeks() {
        Run.of("II", "HOME of a CHILD on a DAY: of its WEEKS that hold (from that DAY or one ahead) in an odd week, else of its MOVES,")
                .ask("child 3 0 0 0; move 0 4 0 false; move 0 5 8 true; move 0 6 9 false; child 0 0 0 0; move 1 7 0 true")
                .ask("home 0 0 6 = 4; home 0 7 6 = 4; home 0 8 6 = 5; home 0 9 6 = 5; home 0 13 6 = 5; home 0 14 6 = 6; home 0 21 6 = 5")
                .ask("home 0 7 4 = 4; home 0 8 4 = 5; home 0 14 3 = 4; home 1 7 6 = 7; home 1 14 6 = 0");
    }

    private static void homeByTheLastDay() {
        Run.of("II", "the one with the last DAY,").ask("child 3 0 0 0; move 0 4 20 false; move 0 5 10 false; move 0 6 15 false",
                "home 0 9 4 = 3; home 0 10 4 = 5; home 0 14 4 = 5; home 0 15 4 = 6; home 0 19 4 = 6; home 0 20 4 = 4; home 0 364 4 = 4")
                .again().ask("child 3 0 0 0; move 0 4 12 true; move 0 5 8 true; move 0 6 10 true; home 0 7 4 = 3; home 0 8 4 = 5",
                        "home 0 9 4 = 5; home 0 10 4 = 6; home 0 11 4 = 6; home 0 12 4 = 4; home 0 21 4 = 4");
        Run.of("II", "of alike ones the last told;").ask("child 3 0 0 0; move 0 4 8 false; move 0 5 8 false; home 0 8 2 = 4; home 0 8 3 = 5",
                "move 0 4 8 false; home 0 8 4 = 4; move 0 9 7 false; home 0 8 5 = 4; home 0 7 5 = 9; move 0 6 8 true; move 0 7 8 true",
                "home 0 8 6 = 6; home 0 8 7 = 7; home 0 14 7 = 4; annul 6; home 0 8 8 = 6");
    }

    private static void homeAsAtFirst() {
        Run.of("II", "without one as at first.").ask("child 11 0 0 0; child 0 0 0 0; home 0 0 2 = 11; home 0 364 2 = 11; home 1 7 2 = 0",
                "move 0 1 364 false; move 1 1 357 true; home 0 363 4 = 11; home 1 356 4 = 0; home 1 364 4 = 0; annul 2; home 0 364 5 = 11");
    }

    private static void homePromise() {
        Run.of("13", "HOME; NONE: no such CHILD as KNOWN by n,").ask("home 0 0 0 = -1; child 3 0 0 0; shut 0 0 0; child 4 0 0 0",
                "home 0 0 0 = -1; home 0 0 1 = 3; home 1 0 1 = -1; home 1 0 2 = -1; home 1 0 3 = 4; home 2 0 3 = -1; home -1 0 3 = -1",
                "home MAX 0 3 = -1; home MIN 0 3 = -1");
        Run.of("13", "DAY, n.").ask("child 3 0 0 0; home 0 0 1 = 3; home 0 364 1 = 3; home 0 -1 1 = -1; home 0 365 1 = -1; home 0 MAX 1 = -1",
                "home 0 MIN 1 = -1; home 0 0 -1 = -1; home 0 0 2 = -1; home 0 0 MAX = -1; home 0 0 MIN = -1");
        Run.of("13", "(A TEXT need not be.)").ask("child 3 0 0 0; move 0 5 7 false; home 0 6 2 = 3; home 0 7 2 = 5; force 7 = -1")
                .read(8, "place a;").ask("home 0 7 2 = 5; home 0 8 2 = 5");
    }
}
