/** What a text tells, its faults and the text in force: the second half of the terms I, promise 12. */
final class FaultEdges {
    private static final String MAP = "place a;place b;";
    private static final String YARD = MAP + "school s at b 480;stop t at a;right if 0==0;walk 0;";
    private static Run run;

    private FaultEdges() { }

    static void all() {
        numbers();
        untoldRules();
        lastTold();
        firstByPlace();
        leastOfOnePlace();
        syntax();
        tokens401();
        room();
        brackets();
        aheadOfTheOthers();
        twice();
        noName();
        wrongWays();
        wrongNumbers();
        toItself();
        changesNothing();
        threeTexts();
        inForce();
        noneInForce();
        numberInForce();
    }

    private static void holds(String sentence) {
        run = Run.of("I", sentence);
    }

    private static void fault(String text, int number, int place) {
        run.fault(text, number, place);
    }

    private static void fine(String text) {
        fault(text, 0, -1);
    }

    private static void numbers() {
        holds("PLACES, WAYS (two PLACES, metres, minutes; bad or not), SCHOOLS (a PLACE, a BELL: a minute of the day), "
                + "STOPS (a PLACE), RIGHTS are numbered each from 0 on as they stand.");
        run.read(0, "right if class==1;place z;walk 0;place a;way z a 5 2;school y at a 490;stop u at a;way a z 7 1;"
                + "right if class==0;stop t at z;school x at z 480;way z a 3 9 bad;right if 0==0;")
                .ask("count 10 = 2; count 20 = 3; count 30 = 2; count 40 = 3")
                .ask("dist 0 1 0 0 0 = 3; dist 0 1 1 0 0 = 5; dist 0 1 2 0 0 = 1")
                .ask("child 0 0 0 0; child 1 1 1 0; child 1 0 2 0; right 0 0 3 = 1; right 1 0 3 = 0; right 2 0 3 = 2")
                .ask("stop 0 0 3 = 1; stop 1 0 3 = 0; load 0 1 0 3 = 1; load 0 0 0 3 = 1; load 1 0 0 3 = 1")
                .ask("shut 0 0 0; dist 0 1 1 0 4 = 7; shut 2 0 0; dist 0 1 0 0 5 = 7; shut 1 0 0; dist 0 1 0 0 6 = -2");
        // the bells as they stand: school 0 at 490, school 1 at 480, a route of a minute each; a bus is at z by 480,
        // and goes from z on at 489
        run.again().read(0, "place z;place a;way z a 5 1;school y at a 490;stop u at a;stop t at z;school x at z 480;"
                + "right if 0==0;walk 0;taxi 9999;bus 1 0;").ask("child 0 0 0 0; child 1 1 0 0; fleet 0 2 = 1");
    }

    private static Run yard(String rules, int minutes, int metres) {
        return run.again().read(0, YARD + "place c;way a b 9 " + minutes + ";way a c " + metres + " 1;" + rules);
    }

    private static void children(Run x, int home, int needs, int count) {
        for (int i = 0; i < count; i++) {
            x.ask("child " + home + " 0 0 " + needs);
        }
    }

    private static void untoldRules() {
        holds("SEATS 20,");
        Run seats = yard("", 1, 1);
        children(seats, 0, 2, 9);
        children(seats, 0, 0, 3);
        seats.ask("load 0 0 0 11 = 20; good 0 1 0 11 = 1; load 0 0 0 12 = 21; good 0 1 0 12 = 0");
        holds("RIDE 45 minutes,");
        yard("", 45, 1).ask("child 0 0 0 0; route 0 1 0 1 = 45; good 0 1 0 1 = 1");
        yard("", 46, 1).ask("child 0 0 0 0; route 0 1 0 1 = 46; good 0 1 0 1 = 0");
        holds("WALK 1000 metres,");
        String walk = "place a;place b;school s at b 480;stop t at a;right if 0==0;place c;way a b 9 1;way a c ";
        run.again().read(0, walk + "1000 1;").ask("child 2 0 0 0; stop 0 0 1 = 0");
        run.again().read(0, walk + "1001 1;").ask("child 2 0 0 0; stop 0 0 1 = -2");
        holds("TAXI 5,");
        yard("", 7, 1).ask("child 0 0 0 0; child 0 0 0 0; pay 0 0 1 = 35; pay 0 0 2 = 70; taxis 0 0 2 = 1");
        holds("NURSE 30,");
        yard("taxi 9999;", 7, 1).ask("child 0 0 0 0; child 0 0 0 1; pay 0 0 1 = 114; pay 0 0 2 = 144");
        holds("BUS 100 and 2, if not told;");
        yard("taxi 9999;", 1, 1).ask("child 0 0 0 0; pay 0 0 1 = 102; routes 0 0 1 = 1");
        yard("taxi 9999;", 45, 1).ask("child 0 0 0 0; pay 0 0 1 = 190");
    }

    private static void lastTold() {
        holds("of several the last one told.");
        yard("seats 9;seats 1;seats 2;", 1, 1).ask("child 0 0 0 0; child 0 0 0 0; child 0 0 0 0; good 0 1 0 2 = 1; good 0 1 0 3 = 0");
        yard("ride 9;ride 1;ride 2;", 2, 1).ask("child 0 0 0 0; good 0 1 0 1 = 1");
        yard("ride 9;ride 3;ride 2;", 3, 1).ask("child 0 0 0 0; good 0 1 0 1 = 0");
        yard("walk 9;walk 7;walk 8;", 1, 8).ask("child 2 0 0 0; stop 0 0 1 = 0");
        yard("walk 9;walk 7;walk 8;", 1, 9).ask("child 2 0 0 0; stop 0 0 1 = -2");
        yard("taxi 9;taxi 0;taxi 3;", 7, 1).ask("child 0 0 0 0; pay 0 0 1 = 21");
        yard("taxi 9999;nurse 9;nurse 1;nurse 4;", 7, 1).ask("child 0 0 0 1; pay 0 0 1 = 118");
        yard("taxi 9999;bus 5 5;bus 0 9;bus 9 0;", 7, 1).ask("child 0 0 0 1; pay 0 0 1 = 39");
        yard("taxi 9999;bus 5 5;bus 0 9;", 7, 1).ask("child 0 0 0 0; pay 0 0 1 = 63");
    }

    private static void firstByPlace() {
        holds("FAULTS, the first by its place (a byte; the text's end: its length),");
        fault("seats;ride;", 1, 5);
        fault("seats 1; ? ?", 1, 9);
        fault("seats", 1, 5);
        fault("seats \n\t ", 1, 9);
        fault("seats 1", 1, 7);
        fault("seats 0;ride 0;", 5, 6);
        fault("place a;place a;place a;", 3, 14);
        fault("stop a at a;stop b at b;", 4, 10);
        fault("right if (((((((1;right;", 2, 15);
        fault("place a;place a;stop s at c;seats 0;", 3, 14);
        fault("stop s at c;place a;place a;seats 0;", 4, 10);
        fault("seats 0;stop s at c;place a;place a;", 5, 6);
    }

    private static void leastOfOnePlace() {
        holds("of one place the least:");
        String full = "ride 1;".repeat(133);
        fault(full + "ride ?", 1, full.length() + 5);
        fault(full + "ride ride", 1, full.length() + 5);
        fault(full + "ride 10000", 1, full.length() + 5);
        fault(full + "ride 1", 2, full.length() + 5);
        fault("place a;".repeat(132) + " stop s at a;", 2, 96);
    }

    private static void syntax() {
        holds("1 SYNTAX: a TOKEN, or what is none, with which no text goes on.");
        fault("place a;;", 1, 8);
        fault("place a;place b c;", 1, 16);
        fault("place a place b;", 1, 8);
        fault("place #;", 1, 6);
        fault("place a#;", 1, 7);
        fault("place a;#", 1, 8);
        // what a text can't go on with is told at once, though the text's end is a fault too
        fault("right if 1==1 and )", 1, 18);
        fault("right if (1+2", 1, 13);
        fine("right if (1+2)==3;");
    }

    private static void tokens401() {
        holds("2 ROOM: a 401st TOKEN;");
        String full = "ride 1;".repeat(132) + "bus 1 1;";
        fine(full);
        fine(full + " \n");
        fault(full + "x", 1, full.length());
        fault(full + "place", 2, full.length());
        fault(full + " way a b", 2, full.length() + 1);
        fault(full + "seats 0;", 2, full.length());
        String names = "place a;".repeat(3);
        fault(names + "ride 1;".repeat(129) + "bus 1 1;walk", 2, names.length() + 129 * 7 + 8);
        for (String tell : new String[] {"place c ;", "way a b 1 1 bad ;", "school s at a 1 ;", "stop t at a ;", "right if 1 == 1 and not ( far + 2 ) * 3 <= 4 ;",
            "seats 1 ;", "ride 1 ;", "walk 1 ;", "taxi 1 ;", "nurse 1 ;", "bus 1 1 ;"}) {
            eachToken(tell);
        }
        fine("right if " + "not ".repeat(394) + "1<2;");
        fault("right if " + "not ".repeat(395) + "1<2;", 2, 9 + 4 * 395 + 3);
        fault("right if " + "not ".repeat(398) + "(", 2, 9 + 4 * 398);
        fine("right if 0" + "+1".repeat(197) + "<2;");
        fault("right if 0" + "+1".repeat(198) + "<2;", 2, 10 + 2 * 198 + 1);
    }

    /** Each token of a tell is the 401st once; with its last one as the 400th it is fine. */
    private static void eachToken(String tell) {
        String[] tokens = tell.split(" ");
        for (int i = 0; i <= tokens.length; i++) {
            int filled = 400 - i - 6;
            int fours = filled % 3;
            String text = MAP + "bus 1 1;".repeat(fours) + "ride 1;".repeat((filled - 4 * fours) / 3);
            for (int k = 0; k < i; k++) {
                text += tokens[k] + " ";
            }
            if (i == tokens.length) {
                fine(text);
            } else {
                fault(text + tokens[i], 2, text.length());
            }
        }
    }

    private static String many(int count, String before, String after) {
        StringBuilder all = new StringBuilder();
        for (int i = 0; i < count; i++) {
            all.append(before).append("q").append((char) ('a' + i)).append(after);
        }
        return all.toString();
    }

    /** Just as many are fine; one more is ROOM at its first token, however that tell goes on. */
    private static void full(String text, String more, String count) {
        run.again().text(text).ask("read 0 = 0; " + count);
        fault(text + more, 2, text.length());
        fault(text + "\n " + more, 2, text.length() + 2);
        String first = more.substring(0, more.indexOf(' '));
        fault(text + first, 2, text.length());
        fault(text + first + " ?", 2, text.length());
        fault(text + first + "?", 2, text.length());
        fault(text + first + "q", 1, text.length());
        run.again().text(text + "?").ask("read 0 = 1; place = " + text.length());
    }

    private static void room() {
        holds("a 13th place,");
        full(many(12, "place ", ";"), "place z;", "count 10 = 12");
        fault(many(12, "place ", ";") + "place qa;", 2, 12 * 9);
        holds("a 25th way,");
        full(MAP + "way a b 1 1;".repeat(24), "way a b 1 1;", "count 20 = 24");
        fault(MAP + "way a b 1 1;".repeat(24) + "way a a 0 0;", 2, 16 + 24 * 12);
        holds("a 4th school,");
        full(MAP + many(3, "school ", " at a 1;"), "school z at a 1;", "count 10 = 2");
        fault(MAP + many(3, "school ", " at a 1;") + "school qa at c 9999;", 2, 16 + 3 * 17);
        holds("a 7th stop,");
        full(MAP + many(6, "stop ", " at b;"), "stop z at a;", "count 30 = 6");
        holds("a 9th right (at its first TOKEN);");
        full("right if 1<2;".repeat(8), "right if 1<2;", "count 40 = 8");
        fault("right if 1<2;".repeat(8) + "right if (((((((", 2, 8 * 13);
        fault("right if 1<2;".repeat(7) + "right if (((((((", 2, 7 * 13 + 15);
    }

    private static void brackets() {
        holds("a 7th ( within one another (at it).");
        fine("right if ((((((1))))))==1;");
        fine("right if 1==((((((1))))));");
        fault("right if (((((((1)))))))==1;", 2, 15);
        fault("right if 1==(((((((1)))))));", 2, 18);
        fault("right if (((((( (", 2, 16);
        fault("right if ((((((1+(", 2, 17);
        fault("right if ((((((1==(", 1, 16);
        fine("right if (((1)))+(((1)))+(((1)))+((((((1))))))==1 and ((((((1))))))==((((((1))))));");
        fine("right if ((((((1)))))+(((((1))))))==1;");
        fault("right if ((((((1)))))+((((((1)))))))==1;", 2, 27);
        fine("right if ((((((1)))))+(1)+((1)*2)+(1))==1;");
    }

    private static void aheadOfTheOthers() {
        holds("If there is none, likewise:");
        fault("place a;place a;?", 1, 16);
        fault("stop s at a;place", 1, 17);
        fault("seats 0;right if (((((((", 2, 23);
        fault("way a a 0 0;" + "right if 1<2;".repeat(9), 2, 12 + 8 * 13);
        fault("place a;place a;way a c 0 0;seats 0;", 3, 14);
        fault("seats 0;ride 0;place a;place a;", 5, 6);
    }

    private static void twice() {
        holds("3 TWICE: a NAME told already.");
        String[] first = {"place n;", "school n at m 1;", "stop n at m;"};
        for (String one : first) {
            for (String two : first) {
                String ahead = "place m;" + one + " ";
                fault(ahead + two, 3, ahead.length() + two.indexOf(" n") + 1);
                fine(ahead + two.replace(" n", " nn"));
            }
        }
        fault("place m;stop m at m;", 3, 13);
        fault("place m;school s at m 1;stop s at m;", 3, 29);
        fault("place abcdefgh;place abcdefgh;", 3, 21);
        fine("place abcdefgh;place abcdefg;place bcdefgh;");
        // each of twenty names, if the last one is told again
        String all = many(12, "place ", ";") + "school s at qa 1;school t at qa 1;school u at qa 1;" + many(5, "stop z", " at qa;");
        for (String name : (many(12, "", " ") + "s t u " + many(5, "z", " ")).trim().split(" ")) {
            fault(all + "stop " + name + " at qa;", 3, all.length() + 5);
        }
        fine(all + "stop v at qa;");
        // of the text itself alone
        run.again().read(0, "place a;stop s at a;").read(0, "place s;stop a at s;");
    }

    private static void noName() {
        holds("4 NAME: no PLACE told ahead.");
        fault("way a b 1 1;", 4, 4);
        fault("place a;way b a 1 1;", 4, 12);
        fault("place a;way a b 1 1;", 4, 14);
        fault("place a;way a b 1 1;place b;", 4, 14);
        fine("place a;place b;way a b 1 1;");
        fault("school s at a 1;place a;", 4, 12);
        fault("school s at s 1;", 4, 12);
        fault("stop s at a;place a;", 4, 10);
        fault("stop s at s;", 4, 10);
        fault("place a;stop s at a;stop t at s;", 4, 30);
        fault("place a;school s at a 1;stop t at s;", 4, 34);
        fault("place a;school s at a 1;way s a 1 1;", 4, 28);
        fault("place a;stop t at a;way a t 1 1;", 4, 26);
        // the names of another text are not told in this one
        run.again().read(0, "place a;").refuseText("stop s at a;", 4, 10);
    }

    private static void wrongWays() {
        holds("5 WRONG (at the INT): metres 0,");
        fine(MAP + "way a b 1 1;way a b 9999 1;");
        fault(MAP + "way a b 0 1;", 5, 24);
        fault(MAP + "way a b 0000 1;", 5, 24);
        fault(MAP + "way a b 0 0;", 5, 24);
        holds("minutes 0 or above 99,");
        fine(MAP + "way a b 1 1;way a b 1 99;way a b 1 0099;");
        fault(MAP + "way a b 1 0;", 5, 26);
        fault(MAP + "way a b 1 100;", 5, 26);
        fault(MAP + "way a b 1 9999 bad;", 5, 26);
    }

    private static void wrongNumbers() {
        holds("a BELL above 1439,");
        fine("place a;school s at a 0;school t at a 1439;");
        fault("place a;school s at a 1440;", 5, 22);
        fault("place a;school s at a 9999;", 5, 22);
        holds("SEATS 0,");
        fine("seats 1;seats 9999;");
        fault("seats 0;", 5, 6);
        fault("seats 1;seats 0000;seats 1;", 5, 14);
        holds("RIDE 0;");
        fine("ride 1;ride 9999;");
        fault("ride 0;", 5, 5);
        fault("ride 1; ride 0;ride 1;", 5, 13);
        // of no other rule is 0, or the most, wrong
        fine("walk 0;taxi 0;nurse 0;bus 0 0;walk 9999;taxi 9999;nurse 9999;bus 9999 9999;");
    }

    private static void toItself() {
        holds("(at the second NAME) a WAY from a PLACE to itself.");
        fault(MAP + "way a a 1 1;", 5, 22);
        fault(MAP + "way b b 1 1 bad;", 5, 22);
        fault(MAP + "way a a 0 0;", 5, 22);
        fine(MAP + "way a b 1 1;way b a 1 1;");
        fault("way x x 1 1;", 4, 4);
    }

    private static void changesNothing() {
        Run rich = Rich.tell(Run.of("I", "A text with a FAULT changes nothing;"));
        rich.refuseText("place x;place y;seats 1;walk 0;bus 0 0;place", 1, 44);
        rich.refuseText("place x;way x x 1 1;right if (((((((", 2, 35);
        rich.refuseText("place x;stop z at x;place z;", 3, 26);
        rich.refuseText("school z at x 1;", 4, 12);
        rich.refuseText("place x;place y;way x y 1 1;school z at x 1440;seats 1;", 5, 42);
        rich.ask("count 0 = 1; force 0 = 0");
        // nor does it change what the next text tells, however full it was
        run.fault(many(12, "place ", ";") + "way qa qb 1 1 bad;".repeat(24) + "school s at qa 1;school t at qa 2;school u at qa 3;"
                + many(6, "stop z", " at qa;") + "right if 0==0;".repeat(8) + "seats 1;ride 1;walk 1;taxi 1;nurse 1;bus 1 1;seats 0;", 5, 844);
        run.fault("place a;right if not 1<2 and not (2*(3+ ;", 1, 40);
        run.fault("right if 0==0 or not 1+2*(((((1 x", 1, 32);
        Run walk = run.again().text("seats 1;ride 1;walk 1;taxi 1;nurse 1;bus 1 1;right if 0==0;place a;place a;").ask("read 0 = 3");
        walk.read(0, YARD + "way a b 9 45;taxi 9999;").ask("count 40 = 1; child 0 0 0 1; good 0 1 0 1 = 1; pay 0 0 1 = 220");
    }

    private static void threeTexts() {
        holds("else it is a TEXT, 3 at most, with the DAY from which it holds.");
        run.read(7, "").ask("count 0 = 1").read(0, "place a;").ask("count 0 = 2").read(364, "place a;place b;")
                .ask("count 0 = 3; force 6 = 1; force 363 = 1; force 364 = 2; read 0 = -2; count 0 = 3")
                .ask("count 10 = 0; count 11 = 1; count 12 = 2; count 13 = -1");
    }

    private static void inForce() {
        holds("IN FORCE on a DAY (0 .. 364): of the TEXTS that hold from that DAY or one ahead the last one read;");
        run.read(10, "").read(20, "").read(15, "").ask("force 9 = -1; force 10 = 0; force 14 = 0; force 15 = 2")
                .ask("force 19 = 2; force 20 = 2; force 364 = 2; force 365 = -1; force -1 = -1");
        run.again().read(10, "").read(20, "").ask("force 19 = 0; force 20 = 1").read(20, "").ask("force 19 = 0; force 20 = 2");
        run.again().read(0, "").read(364, "").ask("force 0 = 0; force 363 = 0; force 364 = 1");
        run.again().read(20, "").read(10, "").ask("force 9 = -1; force 10 = 1; force 20 = 1");
    }

    private static void noneInForce() {
        holds("none: nothing can be asked for that DAY.");
        String asked = "dist 0 0 0 D 1 = -1; row 0 0 0 D 1 0 = -1; right 0 D 1 = -1; altered D 1 1 = -1; altered 1 D 1 = -1;"
                + "altered D D 1 = -1; stop 0 D 1 = -1; load 0 0 D 1 = -1; route 0 1 D 1 = -1; routeStop 0 1 D 1 0 = -1;"
                + "good 0 1 D 1 = -1; pay 0 D 1 = -1; routes 0 D 1 = -1; routeSet 0 D 1 0 = -1; taxis 0 D 1 = -1;"
                + "fewest 0 D 1 = -1; fleet D 1 = -1; shifted D 1 = -1; shift 0 D 1 = -100; force D = -1";
        run.read(1, YARD + "way a b 1 1;").ask("child 0 0 0 0").ask(asked.replace("D", "0"), asked.replace("D", "365"),
                asked.replace("D", "-1"), asked.replace("D", "MAX"), asked.replace("D", "MIN"));
        run.ask("home 0 0 1 = 0; dist 0 0 0 1 1 = 0; row 0 0 0 1 1 0 = 0; right 0 1 1 = 0; altered 1 364 1 = 0",
                "stop 0 1 1 = 0; load 0 0 1 1 = 1; route 0 1 1 1 = 1; routeStop 0 1 364 1 0 = 0; good 0 1 1 1 = 1",
                "pay 0 1 1 = 5; routes 0 1 1 = 0; taxis 0 1 1 = 1; fewest 0 1 1 = 1; fleet 1 1 = 0; shifted 364 1 = 0",
                "shift 0 1 1 = 0; force 1 = 0");
        run.again().ask("child 0 0 0 0").ask(asked.replace("D", "1"));
    }

    private static void numberInForce() {
        Run.of("12", "The number of the TEXT IN FORCE;").read(0, "").ask("force 0 = 0; force 364 = 0").read(1, "")
                .ask("force 0 = 0; force 1 = 1").read(2, "").ask("force 0 = 0; force 1 = 1; force 2 = 2; force 364 = 2");
        Run.of("12", "NONE: none, no such DAY.").ask("force 0 = -1; force 364 = -1; force 365 = -1; force -1 = -1")
                .read(364, "").ask("force 363 = -1; force 364 = 0; force 365 = -1; force -1 = -1; force MAX = -1; force MIN = -1");
    }
}
