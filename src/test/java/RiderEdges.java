/** Who may ride and where they board: the end of the terms II, promises 16 to 19. */
final class RiderEdges {
    private static final String MAP = "place a;place b;place c;way a b 400 4;way b c 500 5 bad;way a c 2000 9;school s at c 480;";

    private RiderEdges() { }

    static void all() {
        someRight();
        variables();
        none9999();
        wraps();
        sums();
        riders();
        leastSafe();
        noMoreThanWalk();
        firstOfAlike();
        noStop();
        right();
        altered();
        stop();
        load();
    }

    /** Whether a cond holds of one child (home a, class 3, needs 2) on day 8. */
    private static void holds(Run run, String cond, boolean is) {
        run.again().read(0, MAP + "right if " + cond + ";").ask("child 0 0 3 2; right 0 8 1 = " + (is ? 0 : -2));
    }

    private static void someRight() {
        Run run = Run.of("II", "A CHILD HAS A RIGHT if the COND of some RIGHT holds:");
        run.read(0, "right if class==7;".repeat(7) + "right if class==8;").ask("child 0 0 8 0; child 0 0 7 0; child 0 0 6 0",
                "right 0 0 3 = 7; right 1 0 3 = 0; right 2 0 3 = -2");
        run.again().read(0, MAP).ask("child 0 0 8 0; right 0 0 1 = -2");
        run.again().read(0, "right if 0==1;").ask("child 0 0 8 0; right 0 0 1 = -2");
    }

    private static void variables() {
        Run run = Run.of("II", "class, needs of it, far, safe from its HOME to its SCHOOL's PLACE");
        for (String one : new String[] {"class==3", "needs==2", "far==900", "safe==2000"}) {
            holds(run, one, true);
            holds(run, one.replace("==", "!="), false);
        }
        run.read(0, MAP + "school z at b 1;right if far==400 and safe==400;right if far==0;right if far==500 and safe==2400;")
                .ask("child 0 1 0 0; child 1 1 0 0; child 2 1 0 0; child 1 0 0 0; right 0 0 4 = 0; right 1 0 4 = 1; right 2 0 4 = 2; right 3 0 4 = 2",
                        "move 0 1 1 false; right 0 0 5 = 0; right 0 1 4 = 0; right 0 1 5 = 1");
        Run day = Run.of("II", "day.");
        day.read(0, "right if day==0;right if day==364;right if day<2 or 362<day;").ask("child 0 0 0 0; right 0 0 1 = 0; right 0 364 1 = 1",
                "right 0 1 1 = 2; right 0 2 1 = -2; right 0 362 1 = -2; right 0 363 1 = 2");
    }

    private static void none9999() {
        Run run = Run.of("II", "(9999 if there is none, or no such SCHOOL),");
        run.read(0, "place a;place b;place c;way a b 400 4 bad;school s at b 1;right if far==9999 and safe==9999;"
                + "right if far==400 and safe==9999;right if far==0 and safe==0;")
                .ask("child 0 0 0 0; child 1 0 0 0; child 2 0 0 0; child 3 0 0 0; child 11 0 0 0; child 1 1 0 0; child 0 2 0 0",
                        "right 0 0 7 = 1; right 1 0 7 = 2; right 2 0 7 = 0; right 3 0 7 = 0; right 4 0 7 = 0; right 5 0 7 = 0; right 6 0 7 = 0",
                        "shut 0 3 3; right 0 3 8 = 0; right 0 2 8 = 1; right 0 4 8 = 1");
        // a sum of more than 9999 is told as it is
        run.again().read(0, WayEdges.line() + "school s at ql 1;right if far==9999*11;right if far==9999;right if far==9999*2;")
                .ask("child 0 0 0 0; child 10 0 0 0; child 9 0 0 0; right 0 0 3 = 0; right 1 0 3 = 1; right 2 0 3 = 2");
    }

    private static void wraps() {
        Run run = Run.of("II", "(32 bits that wrap.)");
        holds(run, "2047*1024*1024<0", false);
        holds(run, "2048*1024*1024<0", true);
        holds(run, "0<2048*1024*1024-1", true);
        holds(run, "2048*1024*1024-1+1<0", true);
        holds(run, "2048*1024*1024-1+1==2048*1024*1024", true);
        holds(run, "0-2048*1024*1024<0", true);
        holds(run, "0-2048*1024*1024==2048*1024*1024", true);
        holds(run, "4096*1024*1024==0", true);
        holds(run, "4096*1024*1024+1==1", true);
        holds(run, "4095*1024*1024+1024*1024==0", true);
        holds(run, "9999*9999*9999==0-9999*9999*10-9999*2755-2714", true);
        holds(run, "2048*1024*1024<1", true);
        holds(run, "1<=2048*1024*1024", false);
        holds(run, "1<2048*1024*1024", false);
        holds(run, "2048*1024*1024!=2048*1024*1024-1", true);
        holds(run, "far*far*far*far*512*512*512==0", true);
        holds(run, "0-1<=0-1", true);
        holds(run, "0-1<0", true);
    }

    private static void sums() {
        Run run = Run.of("I", "LIT: 'not' LIT | E ('==' | '!=' | '<' | '<=') E.");
        holds(run, "3<3", false);
        holds(run, "2<3", true);
        holds(run, "4<=3", false);
        holds(run, "3<=3", true);
        holds(run, "3==4", false);
        holds(run, "3!=3", false);
        holds(run, "3!=4", true);
        holds(run, "not 3==3", false);
        holds(run, "not 3==4", true);
        holds(run, "not 3!=4", false);
        holds(run, "not 4<3", true);
        holds(run, "not 3<=2", true);
        holds(run, "not 1==0", true);
        holds(run, "not 0+1*2==1+1", false);
        holds(run, "1==1 and not 3==4", true);
        holds(run, "not not 3==3", true);
        holds(run, "not 3==4 and 3==4", false);
        holds(run, "not 3==3 or 3==3", true);
        Run or = Run.of("I", "COND: ALL {'or' ALL}. ALL: LIT {'and' LIT}.");
        holds(or, "1==1 or 1==1 and 1==2", true);
        holds(or, "1==2 and 1==1 or 1==1", true);
        holds(or, "1==2 or 1==2 or 1==1", true);
        holds(or, "1==1 and 1==1 and 1==2", false);
        holds(or, "1==2 or 1==2", false);
        Run sum = Run.of("I", "E: PART {('+' | '-') PART}. PART: UNIT {'*' UNIT}.");
        holds(sum, "9-3-2==4", true);
        holds(sum, "9-3+2==8", true);
        holds(sum, "1+2*3==7", true);
        holds(sum, "2*3+1==7", true);
        holds(sum, "2*3*4-1==23", true);
        holds(sum, "9-2*3==3", true);
        holds(sum, "1==9-2*3-2", true);
        Run unit = Run.of("I", "UNIT: INT | VAR | '(' E ')'.");
        holds(unit, "(1+2)*3==9", true);
        holds(unit, "9-(3-2)==8", true);
        holds(unit, "2*(2*(2*(2*(2*(2*class)))))==192", true);
        holds(unit, "1+2*(1+2*(1+2*(1+2*(1+2*(1+2*(3))))))==255", true);
        holds(unit, "1+2*(1+2*(1+2*(1+2*(1+2*(1+2*(3))))))<255", false);
        holds(unit, "1==2 or 1==1 and 3<1+2*(1+2*(1+2*(1+2*(1+2*(1+2*(3+3*1))))))", true);
    }

    private static void riders() {
        Run.of("II", "RIDERS of a SCHOOL: its CHILDREN that HAVE A RIGHT.").read(0, MAP + "school z at c 1;stop t at a;right if class<9;")
                .ask("child 0 0 8 0; child 0 0 9 0; child 0 1 8 0; child 0 2 8 0; load 0 0 0 1 = 1; load 0 0 0 4 = 1; load 1 0 0 4 = 1",
                        "stop 0 0 4 = 0; stop 1 0 4 = -2; stop 2 0 4 = 0; stop 3 0 4 = -2");
    }

    private static void leastSafe() {
        // stop 0 is 300 from a by a bad way, 700 else; stop 1 is 600 from a
        String map = "place a;place b;place c;way a b 300 1 bad;way a b 700 1;way a c 600 9;school s at b 1;stop p at b;stop q at c;right if 0==0;";
        Run.of("II", "A RIDER's STOP: that with the least SAFE from its HOME,").read(0, map).ask("child 0 0 0 0; child 1 0 0 0; child 2 0 0 0",
                "stop 0 0 3 = 1; stop 1 0 3 = 0; stop 2 0 3 = 1; shut 2 1 1; stop 0 1 4 = 0; stop 0 0 4 = 1; shut 1 1 1; stop 0 1 5 = -2",
                "move 0 1 2 false; stop 0 2 6 = 0; stop 0 2 5 = 1");
    }

    private static void noMoreThanWalk() {
        Run run = Run.of("II", "no more than WALK;");
        String map = "place a;place b;way a b 500 1;school s at b 1;stop p at b;right if 0==0;";
        run.read(0, map + "walk 500;").ask("child 0 0 0 0; stop 0 0 1 = 0");
        run.again().read(0, map + "walk 499;").ask("child 0 0 0 0; stop 0 0 1 = -2");
        run.again().read(0, map + "walk 0;").ask("child 0 0 0 0; child 1 0 0 0; stop 0 0 2 = -2; stop 1 0 2 = 0");
        run.again().read(0, map.replace("500", "9999") + "walk 9999;").ask("child 0 0 0 0; stop 0 0 1 = 0");
        run.again().read(0, map.replace("500", "9999") + "walk 9998;").ask("child 0 0 0 0; stop 0 0 1 = -2");
        run.again().read(0, WayEdges.line() + "school s at qc 1;stop p at qc;right if 0==0;walk 9999;").ask("child 0 0 0 0; child 1 0 0 0",
                "stop 0 0 2 = -2; stop 1 0 2 = 0");
    }

    private static void firstOfAlike() {
        Run.of("II", "of alike ones the first;").read(0, "place a;place b;place c;way a b 500 1;way a c 500 1;school s at b 1;"
                + "stop p at c;stop q at b;stop r at c;right if 0==0;").ask("child 0 0 0 0; child 1 0 0 0; child 2 0 0 0; stop 0 0 3 = 0",
                "stop 1 0 3 = 1; stop 2 0 3 = 0; load 0 2 0 3 = 0; load 0 0 0 3 = 2");
    }

    private static void noStop() {
        Run.of("II", "it may have none.").read(0, MAP + "right if 0==0;").ask("child 0 0 0 0; right 0 0 1 = 0; stop 0 0 1 = -2; pay 0 0 1 = 0")
                .again().read(0, MAP + "place e;stop p at e;right if 0==0;").ask("child 0 0 0 0; child 3 0 0 0; child 4 0 0 0",
                        "stop 0 0 3 = -2; stop 1 0 3 = 0; stop 2 0 3 = -2; load 0 0 0 3 = 1; right 2 0 3 = 0");
    }

    private static void right() {
        Run.of("16", "The first RIGHT that holds of a CHILD;").read(0, "right if class<1;right if class<3;right if class<2;")
                .ask("child 0 0 0 0; child 0 0 1 0; child 0 0 2 0; right 0 0 3 = 0; right 1 0 3 = 1; right 2 0 3 = 1");
        Run.of("16", "-2: it HAS none;").read(0, "").ask("child 0 0 0 0; right 0 0 1 = -2").read(5, "right if class<2;")
                .ask("child 0 0 2 0; child 0 0 1 0; right 0 4 3 = -2; right 0 5 3 = 0; right 1 5 3 = -2; right 2 5 3 = 0");
        Run.of("16", "NONE: no TEXT IN FORCE, no such n, CHILD as KNOWN by n.").ask("child 0 0 0 0; right 0 0 1 = -1")
                .read(5, "right if class<2;").ask("shut 0 0 0; child 0 0 9 0; right 0 4 3 = -1; right 0 5 3 = 0; right 0 364 1 = 0; right 0 365 3 = -1",
                        "right 0 -1 3 = -1; right 0 5 4 = -1; right 0 5 -1 = -1; right 0 5 MAX = -1; right 0 5 MIN = -1; right 0 5 0 = -1",
                        "right 1 5 1 = -1; right 1 5 2 = -1; right 1 5 3 = -2; right 2 5 3 = -1; right -1 5 3 = -1; right 20 5 3 = -1",
                        "right MAX 5 3 = -1; right MIN 5 3 = -1");
    }

    private static void altered() {
        Run run = Run.of("17", "How many CHILDREN, as KNOWN by n, HAVE A RIGHT on one of two DAYS, not on the other;").read(0, "place a;"
                + "right if class<3 and day<10;right if 5<class and 9<day;right if class==4;");
        for (int i = 0; i < 20; i++) {
            run.ask("child 0 " + i % 3 + " " + i % 8 + " 0 = " + i);
        }
        // classes 0, 1, 2 three times each lose it, 6 and 7 twice each get it
        run.ask("altered 9 10 20 = 13; altered 10 9 20 = 13; altered 9 9 20 = 0; altered 0 9 20 = 0; altered 10 364 20 = 0; altered 0 364 20 = 13",
                "altered 9 10 0 = 0; altered 9 10 1 = 1; altered 9 10 3 = 3; altered 9 10 6 = 3; altered 9 10 7 = 4; altered 9 10 19 = 13; altered 9 10 18 = 12");
        run.again().read(0, "right if day<5;").ask("altered 4 5 0 = 0; child 0 0 0 0; altered 4 5 1 = 1");
        // another right alters nothing
        run.again().read(0, "right if day<5;right if 4<day;").ask("child 0 0 0 0; altered 4 5 1 = 0; right 0 4 1 = 0; right 0 5 1 = 1");
        Run.of("17", "NONE: no TEXTS IN FORCE, no such n.").ask("altered 0 0 0 = -1").read(5, "right if day<6;").ask("child 0 0 0 0",
                "altered 4 5 1 = -1; altered 5 4 1 = -1; altered 4 4 1 = -1; altered 5 6 1 = 1; altered 5 5 1 = 0; altered 364 5 1 = 1",
                "altered 365 5 1 = -1; altered 5 365 1 = -1; altered -1 5 1 = -1; altered 5 -1 1 = -1; altered MAX 5 1 = -1; altered 5 MIN 1 = -1",
                "altered 5 6 0 = 0; altered 5 6 2 = -1; altered 5 6 -1 = -1; altered 5 6 MAX = -1; altered 5 6 MIN = -1");
    }

    private static void stop() {
        String map = "place a;place b;way a b 5 1;school s at b 1;right if class<5;";
        Run.of("18", "The STOP of a RIDER;").read(0, map + "stop p at b;stop q at a;stop r at a;").ask("child 0 0 0 0; child 1 0 4 0",
                "stop 0 0 2 = 1; stop 1 0 2 = 0");
        Run.of("18", "-2: it has none, is no RIDER (of a SCHOOL that there is);").read(0, map + "place c;stop p at b;")
                .ask("child 2 0 0 0; child 1 0 5 0; child 1 1 0 0; child 1 0 4 0; child 3 0 0 0; stop 0 0 5 = -2; stop 1 0 5 = -2; stop 2 0 5 = -2",
                        "stop 3 0 5 = 0; stop 4 0 5 = -2; right 2 0 5 = 0");
        Run.of("18", "NONE: likewise as right().").ask("child 0 0 0 0; stop 0 0 1 = -1").read(5, map + "stop p at b;")
                .ask("shut 9 0 0; child 0 0 9 0; stop 0 4 3 = -1; stop 0 5 3 = 0; stop 0 364 1 = 0; stop 0 365 3 = -1; stop 0 -1 3 = -1",
                        "stop 0 5 4 = -1; stop 0 5 -1 = -1; stop 0 5 MAX = -1; stop 0 5 MIN = -1; stop 0 5 0 = -1; stop 1 5 2 = -1; stop 1 5 3 = -2",
                        "stop 2 5 3 = -1; stop -1 5 3 = -1; stop 20 5 3 = -1; stop MAX 5 3 = -1; stop MIN 5 3 = -1");
    }

    private static void load() {
        String map = "place a;place b;way a b 5 1;school s at b 1;school z at a 1;stop p at b;stop q at a;right if class<5;walk 0;";
        Run full = Run.of("19", "LOAD of a SCHOOL's RIDERS of a STOP;").read(0, map);
        full.ask("load 0 0 0 0 = 0");
        for (int i = 0; i < 20; i++) {
            full.ask("child 0 0 0 2 = " + i);
        }
        full.ask("load 0 1 0 20 = 40; load 0 1 0 19 = 38; load 0 1 0 1 = 2; load 0 0 0 20 = 0; load 1 1 0 20 = 0; load 0 1 0 0 = 0");
        Run.of("19", "NONE: no TEXT IN FORCE, no such n, SCHOOL, STOP.").ask("child 0 0 0 0; load 0 0 0 0 = -1").read(5, map)
                .ask("load 0 1 4 1 = -1; load 0 1 5 1 = 1; load 0 1 364 1 = 1; load 0 1 365 1 = -1; load 0 1 -1 1 = -1; load 0 1 5 2 = -1",
                        "load 0 1 5 -1 = -1; load 0 1 5 MAX = -1; load 0 1 5 MIN = -1; load 0 1 5 0 = 0; load 1 1 5 1 = 0; load 2 1 5 1 = -1",
                        "load 3 1 5 1 = -1; load -1 1 5 1 = -1; load MAX 1 5 1 = -1; load MIN 1 5 1 = -1; load 0 0 5 1 = 0; load 0 2 5 1 = -1",
                        "load 0 5 5 1 = -1; load 0 6 5 1 = -1; load 0 -1 5 1 = -1; load 0 MAX 5 1 = -1; load 0 MIN 5 1 = -1")
                .again().read(0, "place a;school s at a 1;").ask("load 0 0 0 0 = -1").again().read(0, "place a;stop s at a;").ask("load 0 0 0 0 = -1")
                .again().read(0, "place a;stop p at a;stop q at a;stop r at a;stop s at a;stop t at a;stop u at a;school v at a 1;school w at a 1;"
                        + "school x at a 1;").ask("load 2 5 0 0 = 0; load 3 5 0 0 = -1; load 2 6 0 0 = -1");
    }
}
