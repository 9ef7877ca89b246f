/** The tape and reading it: promises 1 to 5. */
final class TapeEdges {
    private static final String FEED = "feed 538976288 538976288 538976288 538976288 538976288";

    private TapeEdges() { }

    static void all() {
        newObject();
        newLists();
        twentyBytes();
        highestFirst();
        behindTheTape();
        noMoreThan2000();
        bytesGo();
        notSoManyBytes();
        readsTheTape();
        faultIsAnswered();
        noSuchDay();
        threeTexts();
        placeOfTheLatestRead();
        noPlaceWithoutAFault();
        calls512();
    }

    private static void newObject() {
        Run full = Rich.tell(Run.of("1", "No TEXTS, FACTS;"));
        full.again().ask("count 0 = 0; count 1 = 0; count 2 = 0; count 6 = 0; count 10 = -1; count 20 = -1; count 30 = -1",
                "count 40 = -1; place = -1; force 0 = -1; force 364 = -1; home 0 0 0 = -1; home 0 0 1 = -1",
                "dist 0 0 0 0 0 = -1; right 0 0 0 = -1; altered 0 0 0 = -1; stop 0 0 0 = -1; load 0 0 0 0 = -1",
                "pay 0 0 0 = -1; fleet 0 0 = -1; shifted 0 0 = -1; shift 0 0 0 = -100; lent 0 = 0; lent 1 = -1",
                "lentAt 0 0 false = -1; annul 0 = -1; back 1 = -1; child 0 0 0 0 = 0; shut 0 0 0 = 1; read 0 = 0; count 0 = 1");
    }

    private static void newLists() {
        Run full = Rich.tell(Run.of("1", "no BIDS, DRIVERS, CALLS."));
        full.again().ask("count 3 = 0; count 4 = 0; count 5 = 0; award 1 -1 = -2; award 10 -1 = -2; awarded 1 -1 0 = -1",
                "cover 1 = 1; cover 10 = 10; drives 10 0 = -2; leave 0 true = false; told 0 1 = -2; told 0 0 = 0",
                "soonest = 0; bid 0 1 0 = 0; driver 0 = 0; call 0 1 1 = 1");
    }

    private static void twentyBytes() {
        Run.of("2", "Twenty bytes,").ask("feed 0 0 0 0 0 = 20; count 6 = 20; back 20 = 0; back 1 = -1");
        Run.of("2", "how many it has.").ask("feed 0 0 0 0 0 = 20; feed -1 -1 -1 -1 -1 = 40; back 5 = 35",
                "feed MIN MAX MIN MAX MIN = 55; count 6 = 55");
    }

    /** A byte that is no token stands once at each of the twenty places. */
    private static void highestFirst() {
        Run run = Run.of("2", "the highest of a first,");
        for (int at = 0; at < 20; at++) {
            run.text(" ".repeat(at) + "?" + " ".repeat(19 - at)).ask("read 0 = 1; place = " + at);
            run.text(" ".repeat(at) + (char) (at % 2 == 0 ? 255 : 128) + " ".repeat(19 - at))
                    .ask("read 0 = 1; place = " + at);
        }
        // 'walk', ' 900', '0;', two blanks, and 'ride' ' 8; '
        run.again().ask("feed " + 0x77616c6b + " " + 0x20393030 + " " + 0x303b2020 + " " + 0x72696465 + " " + 0x20383b20
                + " = 20; read 0 = 0");
    }

    private static void behindTheTape() {
        Run.of("2", "come behind the tape:").ask(FEED + " = 20").text("   ?").ask("count 6 = 24; read 0 = 1; place = 23")
                .text("place a;").ask("count 6 = 8").text("place b;").ask("read 0 = 0; count 10 = 2");
    }

    private static void noMoreThan2000() {
        Run run = Run.of("2", "NONE, and nothing comes, if it would have more than 2,000.");
        run.text(" ".repeat(1980)).ask(FEED + " = 2000");
        run.refuse("feed 1061109567 1061109567 1061109567 1061109567 1061109567 = -1").ask("count 6 = 2000");
        Run almost = run.twin().ask("back 19 = 1981");
        almost.refuse("feed 1061109567 0 0 0 0 = -1").ask("count 6 = 1981; back 1 = 1980; " + FEED + " = 2000", "read 0 = 0");
        run.again().text(" ".repeat(1981)).refuse(FEED + " = -1");
    }

    private static void bytesGo() {
        Run.of("3", "The last n bytes of the tape go: how many it has.").text("place a;place b;x").ask("count 6 = 17",
                "back 0 = 17; back 1 = 16; back 8 = 8; back 7 = 1; back 1 = 0; back 0 = 0").text("place a;?!")
                .ask("back 2 = 8; read 0 = 0; count 10 = 1; back 0 = 0");
        Run.of("3", "how many it has.").text(" ".repeat(2000)).ask("back 0 = 2000; back 2000 = 0; count 6 = 0");
    }

    private static void notSoManyBytes() {
        Run.of("3", "NONE, and nothing goes, if it has not so many,").refuse("back 1 = -1; back MAX = -1")
                .text("place a;").refuse("back 9 = -1; back MAX = -1").ask("back 8 = 0").refuse("back 1 = -1")
                .again().text(" ".repeat(2000)).refuse("back 2001 = -1");
        Run.of("3", "or n is below 0.").text("place a;").refuse("back -1 = -1; back MIN = -1").ask("back 0 = 8");
    }

    private static void readsTheTape() {
        Run.of("4", "The tape, which is empty then, is read, to hold from a DAY on:").text("place a;")
                .ask("read 0 = 0; count 6 = 0; count 10 = 1; force 0 = 0; feed 0 0 0 0 0 = 20; read 0 = 1; count 6 = 0")
                .text("place a;place b;").ask("read 364 = 0; count 6 = 0; count 11 = 2; force 363 = 0; force 364 = 1")
                .ask("read 182 = 0; count 0 = 3; count 12 = 0; force 181 = 0; force 182 = 2");
    }

    private static void faultIsAnswered() {
        Run.of("4", "0, or the number of its FAULT.").ask("read 0 = 0; count 0 = 1").text("x").ask("read 0 = 1")
                .text("right if (((((((").ask("read 0 = 2").text("place a;place a;").ask("read 0 = 3")
                .text("stop s at a;").ask("read 0 = 4").text("ride 0;").ask("read 0 = 5; count 0 = 1; count 6 = 0");
    }

    private static void noSuchDay() {
        Run run = Rich.tell(Run.of("4", "-2, and the tape stays: no such DAY,"));
        run.text("place a;").refuse("read -1 = -2; read 365 = -2; read MAX = -2; read MIN = -2")
                .ask("count 6 = 8; read 364 = 0; count 11 = 1; count 6 = 0");
        Run.of("4", "no such DAY,").text("?").refuse("read 365 = -2; read -1 = -2").ask("place = -1; read 0 = 1; place = 0");
    }

    private static void threeTexts() {
        Run run = Run.of("4", "3 TEXTS are there.").read(5, "place a;").read(5, "place a;place b;").text("?")
                .ask("read 0 = 1").read(5, "place a;place b;place c;");
        run.text("place a;").refuse("read 5 = -2; read 0 = -2; read 364 = -2; read 365 = -2").ask("count 0 = 3",
                "count 6 = 8; count 12 = 3; force 5 = 2; place = -1; back 8 = 0").refuse("read 0 = -2");
        run.again().read(0, "").read(0, "").text("?").ask("read 0 = 1; place = 0; read 0 = 0")
                .text(" ?").refuse("read 0 = -2").ask("place = -1; count 6 = 2");
    }

    private static void placeOfTheLatestRead() {
        Run.of("5", "The byte of the latest read()'s FAULT (that was not -2);").text(" ?").ask("read 0 = 1; place = 1")
                .text("   ?").ask("read -1 = -2; place = 1; read 365 = -2; place = 1; read 0 = 1; place = 3; place = 3")
                .text("place").ask("place = 3; read 0 = 1; place = 5")
                .text(" ".repeat(1999) + "?").ask("read 0 = 1; place = 1999")
                .text(" ".repeat(1996) + "ride").ask("read 0 = 1; place = 2000");
    }

    private static void noPlaceWithoutAFault() {
        Run.of("5", "NONE without.").ask("place = -1; read 365 = -2; place = -1; read 0 = 0; place = -1").text("?")
                .ask("place = -1; read 0 = 1; place = 0; read 0 = 0; place = -1");
    }

    /** The 512th call is answered as the first one would be. */
    private static void calls512() {
        Run run = Run.of("what", "An object is used for at most 512 calls after it has been made; what later calls answer is free.");
        Rich.tell(run).askUntil(511, "count 1 = 16").ask("child 0 0 0 0 = 6");
        Rich.tell(run.again()).askUntil(511, "told 0 1 = 5").ask("pay 0 7 16 = 243");
        run.again().askUntil(492, "count 6 = 0").text("place a;").askUntil(511, "count 6 = 8").ask("read 364 = 0");
    }
}
