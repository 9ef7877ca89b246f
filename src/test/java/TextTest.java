/** Promises 1 to 5, 12 and 44: the tape, the texts and their faults. */
public final class TextTest {
    private static final String PLACES = "place a;place b;place c;";

    public static void main(String[] args) {
        newObject();
        tape();
        reads();
        tokens();
        syntax();
        room();
        lateFaults();
        rightsAreReadWhole();
        textsInForce();
        Check.finish();
    }

    /** A text by itself on a new object: its fault and the byte. */
    private static void fault(String text, int number, int place) {
        SchoolRides x = new SchoolRides();
        String shown = text.length() > 60 ? text.substring(0, 60) + ".." : text;
        Check.due("read of '" + shown + "'", Check.read(x, text, 0), number);
        Check.due("place of '" + shown + "'", x.place(), place);
        Check.due("texts behind '" + shown + "'", x.count(0), number == 0 ? 1 : 0);
        Check.due("tape behind '" + shown + "'", x.count(6), 0);
    }

    private static void fine(String text) {
        fault(text, 0, -1);
    }

    private static void newObject() {
        SchoolRides x = new SchoolRides();
        for (int what = 0; what <= 6; what++) {
            Check.due("count(" + what + ")", x.count(what), 0);
        }
        Check.due("place()", x.place(), -1);
        Check.due("force(0)", x.force(0), -1);
        Check.due("pay", x.pay(0, 0, 0), -1);
        Check.due("home", x.home(0, 0, 0), -1);
        Check.due("shift", x.shift(0, 0, 0), -100);
        Check.due("count(-1)", x.count(-1), -1);
        for (int what = 7; what < 60; what++) {
            Check.due("count(" + what + ")", x.count(what), -1);
        }
        Check.due("count of most", x.count(Integer.MAX_VALUE), -1);
        Check.due("count of least", x.count(Integer.MIN_VALUE), -1);
    }

    private static void tape() {
        SchoolRides x = new SchoolRides();
        for (int i = 1; i <= 100; i++) {
            Check.due("feed", x.feed(0, 0, 0, 0, 0), 20 * i);
        }
        Check.due("feed beyond", x.feed(0, 0, 0, 0, 0), -1);
        Check.due("back(2001)", x.back(2001), -1);
        Check.due("back(-1)", x.back(-1), -1);
        Check.due("back of least", x.back(Integer.MIN_VALUE), -1);
        Check.due("back(0)", x.back(0), 2000);
        Check.due("back(19)", x.back(19), 1981);
        Check.due("feed with 19 left", x.feed(0, 0, 0, 0, 0), -1);
        Check.due("back(1)", x.back(1), 1980);
        Check.due("feed with 20 left", x.feed(0, 0, 0, 0, 0), 2000);
        Check.due("back(2000)", x.back(2000), 0);
        Check.due("back(1) of none", x.back(1), -1);
        // the highest byte comes first: "seats 7;ride 8;" and five bytes that go again
        Check.due("feed", x.feed(0x73656174, 0x7320373b, 0x72696465, 0x20383bff, 0xfffefdfc), 20);
        Check.due("back(5)", x.back(5), 15);
        Check.due("read", x.read(0), 0);
        x.feed(0x41202020, 0, 0, 0, 0);
        Check.due("read", x.read(0), 1);
        Check.due("place()", x.place(), 0);
        x.feed(0x20202041, 0, 0, 0, 0);
        Check.due("read", x.read(0), 1);
        Check.due("place()", x.place(), 3);
    }

    private static void reads() {
        SchoolRides x = new SchoolRides();
        Check.due("read of nothing", x.read(7), 0);
        Check.due("count(10)", x.count(10), 0);
        Check.feed(x, "seats;");
        Check.due("read(-1)", x.read(-1), -2);
        Check.due("read(365)", x.read(365), -2);
        Check.due("tape stays", x.count(6), 6);
        Check.due("place() without a fault", x.place(), -1);
        Check.due("read with a fault", x.read(364), 1);
        Check.due("place()", x.place(), 5);
        Check.due("tape is empty", x.count(6), 0);
        Check.due("texts", x.count(0), 1);
        Check.feed(x, "?");
        Check.due("read(365)", x.read(365), -2);
        Check.due("place() of the latest that was not -2", x.place(), 5);
        x.back(1);
        Check.due("read", Check.read(x, "ride 3;", 364), 0);
        Check.due("place()", x.place(), -1);
        Check.due("read", Check.read(x, PLACES + "way a b 1 1;stop s at c;right if 1==1;right if 2==1;", 3), 0);
        Check.feed(x, "ride 3;");
        Check.due("4th text", x.read(3), -2);
        Check.due("tape stays", x.count(6), 7);
        int[] counts = {0, 0, 3, 0, 0, 1, 0, 0, 1, 0, 0, 2};
        for (int i = 0; i < 12; i++) {
            Check.due("count of text", x.count(10 + i / 3 * 10 + i % 3), counts[i]);
        }
        Check.due("count(13)", x.count(13), -1);
        Check.due("count(19)", x.count(19), -1);
        Check.due("count(50)", x.count(50), -1);
        Check.due("count(9)", x.count(9), -1);
    }

    private static void tokens() {
        fine("");
        fine(" \t\r\n");
        fine("place abcdefgh;");
        fault("place abcdefghi;", 1, 6);
        fine("seats 9999;");
        fault("seats 12345;", 1, 6);
        fine("seats 0001;");
        fault("seats 00001;", 1, 6);
        fine("seats1;ride2;place\ta\n;\r");
        fault("placea;", 1, 0);
        fault("Place a;", 1, 0);
        fault("place A;", 1, 6);
        fault("place a1;", 1, 7);
        fault("place \u00e9;", 1, 6);
        fault("place \u0000a;", 1, 6);
        fault("seats 1;\u000b", 1, 8);
        fault("right if 1=1;", 1, 10);
        fault("right if 1!1;", 1, 10);
        fault("right if 1===1;", 1, 12);
        fault("right if 1<==1;", 1, 12);
        fault("right if 1>1;", 1, 10);
        fine("right if 1<=1;right if 1<1;right if 1!=1;");
        fault("right if 1< =1;", 1, 12);
        fault("right if 1/1==1;", 1, 10);
        String[] words = {"place", "way", "bad", "school", "at", "stop", "right", "if", "seats", "ride", "walk", "taxi",
            "nurse", "bus", "or", "and", "not", "class", "needs", "far", "safe", "day"};
        for (String word : words) {
            fault("place " + word + ";", 1, 6);
            fine("place " + word + "x;");
            fine("place x" + word + ";");
        }
    }

    private static void syntax() {
        fault("place", 1, 5);
        fault("place  ", 1, 7);
        fault("place a", 1, 7);
        fault("place a b;", 1, 8);
        fault("place 1;", 1, 6);
        fault(";", 1, 0);
        fault("a", 1, 0);
        fault("1", 1, 0);
        fault("class;", 1, 0);
        fault("seats 1;;", 1, 8);
        fault("way a;", 1, 5);
        fault("way a b;", 1, 7);
        fault("way a b 1;", 1, 9);
        fault("way a b 1 2 bad bad;", 1, 16);
        fault("way a b bad 1 2;", 1, 8);
        fault("school s a 1;", 1, 9);
        fault("school s at a;", 1, 13);
        fault("stop s at a 1;", 1, 12);
        fault("stop s;", 1, 6);
        fault("bus 1;", 1, 5);
        fault("bus 1 2 3;", 1, 8);
        fault("seats 1 2;", 1, 8);
        fault("nurse ;", 1, 6);
        fault("right 1==1;", 1, 6);
        fault("right if;", 1, 8);
        fault("right if 1;", 1, 10);
        fault("right if 1==;", 1, 12);
        fault("right if 1==1 2;", 1, 14);
        fault("right if 1==1==1;", 1, 13);
        fault("right if 1==not 1;", 1, 12);
        fault("right if (not 1)==1;", 1, 10);
        fault("right if 1+not 1==1;", 1, 11);
        fault("right if (1==1);", 1, 11);
        fault("right if ((1)==1;", 1, 13);
        fault("right if (1))==1;", 1, 12);
        fault("right if ()==1;", 1, 10);
        fault("right if -1==1;", 1, 9);
        fault("right if 1 and 1==1;", 1, 11);
        fault("right if 1==1 and;", 1, 17);
        fault("right if 1==1 or and 1==1;", 1, 17);
        fault("right if not;", 1, 12);
        fault("right if far;", 1, 12);
        fault("right if a==1;", 1, 9);
        fault("right if 1==(1;", 1, 14);
        fault("right if 1==1)", 1, 13);
        fault("right if 1==1 ", 1, 14);
        fault("right if (1<2)==1;", 1, 11);
        fine("right if not not 1==1 and not (1+2)*(class-needs*day)<=far or safe!=2;");
    }

    private static String repeat(String s, int n) {
        return s.repeat(n);
    }

    private static String letters(int i) {
        return "q" + (char) ('a' + i);
    }

    private static void room() {
        StringBuilder places = new StringBuilder();
        for (int i = 0; i < 12; i++) {
            places.append("place ").append(letters(i)).append(';');
        }
        fine(places.toString());
        fault(places + "place zz;", 2, places.length());
        fault(places + "place", 2, places.length());
        fault(places + " place qa;", 2, places.length() + 1);
        String ways = PLACES + repeat("way a b 1 1;", 24);
        fine(ways);
        fault(ways + "way a b 1 1;", 2, ways.length());
        String schools = PLACES + "school sa at a 0;school sb at a 0;school sc at a 0;";
        fine(schools);
        fault(schools + "school sd at a 0;", 2, schools.length());
        StringBuilder stops = new StringBuilder(PLACES);
        for (int i = 0; i < 6; i++) {
            stops.append("stop ").append(letters(i)).append(" at a;");
        }
        fine(stops.toString());
        fault(stops + "stop x at a;", 2, stops.length());
        String rights = repeat("right if 1==1;", 8);
        fine(rights);
        fault(rights + "right if", 2, rights.length());
        fine("right if ((((((1))))))==((((((1))))));");
        fine("right if (1)+(1)+(1)+(1)+(1)+(1)+(1)+(1)==1;");
        fault("right if (((((((1)))))))==1;", 2, 15);
        fault("right if 1==(((((((1)))))));", 2, 18);
        fault("right if ((((((1(", 1, 16);
        // 400 tokens are fine; the 401st is ROOM, but SYNTAX where it can't stand or is none
        String full = repeat("seats 1;", 132) + "bus 1 1;";
        fine(full);
        fault(full + " ", 0, -1);
        fault(full + "seats 1;", 2, full.length());
        fault(full + " ride", 2, full.length() + 1);
        fault(full + " a", 1, full.length() + 1);
        fault(full + " ?", 1, full.length() + 1);
        String open = repeat("seats 1;", 133);
        fault(open + "ride", 1, open.length() + 4);
        fault(open + "ride 1", 2, open.length() + 5);
        fault(open + "ride;", 1, open.length() + 4);
        String nots = "right if " + repeat("not ", 394) + "1==1;";
        fine(nots);
        fault("right if not " + nots.substring(9), 2, nots.length() + 3);
    }

    private static void lateFaults() {
        fault("place a;place a;", 3, 14);
        fault("place a;stop a at a;", 3, 13);
        fault("place a;school s at a 1;stop s at a;", 3, 29);
        fault("place a;school s at a 1;place s;", 3, 30);
        fault("place a;stop s at a;school s at a 1440;", 3, 27);
        fault("way a b 1 1;", 4, 4);
        fault("place a;way a b 1 1;place b;", 4, 14);
        fault("place a;stop s at a;way a s 1 1;", 4, 26);
        fault("school s at s 1;", 4, 12);
        fault("stop s at a;place a;", 4, 10);
        fault("place a;way a a 0 0;", 5, 14);
        fault("way a a 1 1;", 4, 4);
        fault(PLACES + "way a b 0 0;", 5, 32);
        fault(PLACES + "way a b 1 0;", 5, 34);
        fault(PLACES + "way a b 1 100;", 5, 34);
        fine(PLACES + "way a b 9999 99;");
        fault(PLACES + "school s at a 1440;", 5, 38);
        fine(PLACES + "school s at a 1439;school t at a 0;");
        fault("seats 0;", 5, 6);
        fault("ride 0000;", 5, 5);
        fault("seats 0;seats 5;", 5, 6);
        fine("walk 0;taxi 0;nurse 0;bus 0 0;");
        fault("seats 0;place a;place a;", 5, 6);
        fault("place a;place a;seats 0;", 3, 14);
        // syntax and room are told ahead of the others, wherever they stand
        fault("seats 0;place a;place a;x", 1, 24);
        fault("ride 0;right if (((((((", 2, 22);
    }

    /** Names of the faulty text are gone for the next one, and so are its rules. */
    private static void rightsAreReadWhole() {
        SchoolRides x = new SchoolRides();
        Check.due("read", Check.read(x, "place a;walk 5;place a;", 0), 3);
        Check.due("read", Check.read(x, "place a;place b;way a b 900 1;stop t at a;school s at b 500;right if 1==1;", 0), 0);
        x.child(1, 0, 0, 0);
        Check.due("WALK is as if not told", x.stop(0, 0, 1), 0);
    }

    private static void textsInForce() {
        SchoolRides x = new SchoolRides();
        Check.due("read", Check.read(x, "place a;", 10), 0);
        Check.due("read", Check.read(x, "place a;place b;", 100), 0);
        Check.due("read", Check.read(x, PLACES, 5), 0);
        Check.due("force(-1)", x.force(-1), -1);
        Check.due("force(4)", x.force(4), -1);
        Check.due("force(5)", x.force(5), 2);
        Check.due("force(10): the last one read", x.force(10), 2);
        Check.due("force(364)", x.force(364), 2);
        Check.due("force(365)", x.force(365), -1);
        SchoolRides y = new SchoolRides();
        Check.read(y, "", 10);
        Check.read(y, "", 20);
        Check.due("force(9)", y.force(9), -1);
        Check.due("force(10)", y.force(10), 0);
        Check.due("force(19)", y.force(19), 0);
        Check.due("force(20)", y.force(20), 1);
    }
}
