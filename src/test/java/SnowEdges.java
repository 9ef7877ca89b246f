/** Snow, passes lent, and counts: the end of the terms IV, promises 39 to 44. */
final class SnowEdges {
    private static final String MAP = "place a;place b;place c;way a b 1 10;stop p at a;stop q at b;stop r at c;stop t at a;";

    private SnowEdges() { }

    static void all() {
        people();
        thirtyCalls();
        beginsAtOnce();
        oneAfterTheOther();
        whetherTold();
        ifNotAhead();
        mostPeople();
        soonestLast();
        leastFirst();
        call();
        told();
        soonest();
        fewerMinutes();
        noMinutes();
        byText();
        numbered();
        noneAhead();
        lent();
        lentAt();
        counts();
        noCounts();
    }

    private static void people() {
        Run.of("IV", "SNOW: people 0 .. 11 with lists of CALLS (a calls b, m minutes;").ask("call 0 11 1 = 1; call 11 0 99 = 2; told 0 11 = 1; told 11 0 = 99; told 0 0 = 0; told 11 11 = 0",
                "call 12 0 1 = -1; call 0 12 1 = -1; told 12 0 = -1; told 0 12 = -1; call 11 10 1 = 3; told 11 10 = 100; told 0 10 = 101");
    }

    private static void thirtyCalls() {
        Run run = Run.of("IV", "30 at most):");
        for (int i = 0; i < 30; i++) {
            run.ask("call 0 1 99 = " + (i + 1));
        }
        run.refuse("call 0 2 1 = -1; call 2 0 1 = -1").ask("count 5 = 30; told 0 1 = 99; told 0 2 = -2");
        // the last of thirty calls ends at 30 * 99
        Run last = run.again();
        for (int i = 0; i < 29; i++) {
            last.ask("call 0 1 99");
        }
        last.ask("call 0 2 99 = 30; told 0 2 = 2970; told 0 1 = 99");
        // a line of eleven calls
        Run line = run.again();
        for (int i = 11; i > 0; i--) {
            line.ask("call " + i + " " + (i - 1) + " 99");
        }
        line.ask("told 11 0 = 1089; told 0 11 = -2; told 5 0 = 495; soonest = 11");
    }

    private static void beginsAtOnce() {
        Run.of("IV", "one who is told (a first one at minute 0) begins at once").ask("call 3 4 7; call 4 5 2; told 3 3 = 0; told 3 4 = 7; told 3 5 = 9; told 4 4 = 0; told 4 5 = 2; told 4 3 = -2");
    }

    private static void oneAfterTheOther() {
        Run.of("IV", "and calls those on the list as they were told, one after the other,").ask("call 0 3 5; call 1 2 1; call 0 2 4; call 0 1 1; told 0 3 = 5; told 0 2 = 9; told 0 1 = 10",
                "told 1 2 = 1; call 3 2 3; told 0 2 = 8; call 3 1 1; told 0 1 = 9; call 0 4 99; told 0 4 = 109");
    }

    private static void whetherTold() {
        Run.of("IV", "whether they are told already or not;").ask("call 0 1 5; call 0 1 5; call 0 2 5; told 0 1 = 5; told 0 2 = 15; call 1 0 9; call 1 3 1; told 0 3 = 15; told 1 0 = 9; told 1 3 = 10");
    }

    private static void ifNotAhead() {
        Run.of("IV", "b is told when a call to b ends, if not ahead.").ask("call 0 1 9; call 0 2 1; call 2 1 1; told 0 1 = 9; told 0 2 = 10; told 2 1 = 1",
                "call 3 0 1; call 3 1 1; told 3 1 = 2; told 3 0 = 1; call 4 3 1; call 4 1 1; told 4 1 = 2; told 4 0 = 2; told 4 2 = 12; told 3 2 = 11")
                .again().ask("call 0 1 10; call 0 2 1; call 2 1 1; call 1 0 1; told 0 1 = 10; told 0 0 = 0; told 1 0 = 1; told 2 0 = 2")
                .again().ask("call 0 2 1; call 0 1 10; call 2 1 1; told 0 1 = 2");
    }

    private static void mostPeople() {
        Run.of("IV", "SOONEST: that first one with whom the most people are told;").ask("soonest = 0; call 11 10 99; soonest = 11; call 4 5 1; soonest = 4; call 10 9 99; soonest = 11",
                "call 5 6 1; soonest = 4; call 8 11 99; soonest = 8; told 8 9 = 297");
    }

    private static void soonestLast() {
        Run.of("IV", "of alike ones with whom the last of them is told soonest;").ask("call 1 2 5; call 2 1 4; soonest = 2; call 7 8 3; soonest = 7; call 8 7 4; soonest = 7; call 6 5 3; soonest = 6",
                "call 9 10 2; soonest = 9")
                // the last of them, not the first, nor the sum: 0 tells at 1 and 10, 1 at 9 and 9
                .again().ask("call 0 2 1; call 0 3 9; call 1 4 8; call 1 5 1; soonest = 1");
    }

    private static void leastFirst() {
        Run.of("IV", "of these the least.").ask("soonest = 0; call 9 8 5; call 7 6 5; soonest = 7; call 3 2 5; soonest = 3; call 2 3 5; soonest = 2; call 11 0 5; soonest = 2; call 0 11 5; soonest = 0");
    }

    private static void call() {
        Run.of("39", "A CALL comes behind a's list: how many CALLS there are.").ask("call 0 1 3 = 1; call 0 2 4 = 2; call 1 2 1 = 3; call 0 3 5 = 4; told 0 1 = 3; told 0 2 = 4; told 0 3 = 12; count 5 = 4");
        Run full = Run.of("39", "NONE, and nothing happens: 30 are there,");
        for (int i = 0; i < 30; i++) {
            full.ask("call " + i % 5 + " " + (i % 7 + 5) + " 1 = " + (i + 1));
        }
        full.refuse("call 0 1 1 = -1; call 11 10 99 = -1").ask("count 5 = 30");
        Rich.tell(Run.of("39", "no such people,")).refuse("call -1 0 1 = -1; call 12 0 1 = -1; call 0 -1 1 = -1; call 0 12 1 = -1; call MAX 0 1 = -1; call 0 MIN 1 = -1")
                .ask("call 0 11 1 = 6; call 11 0 1 = 7");
        Rich.tell(Run.of("39", "one and the same,")).refuse("call 0 0 1 = -1; call 11 11 1 = -1; call 12 12 1 = -1").ask("call 0 1 1 = 6");
        Rich.tell(Run.of("39", "m not 1 .. 99.")).refuse("call 0 1 0 = -1; call 0 1 100 = -1; call 0 1 -1 = -1; call 0 1 MAX = -1; call 0 1 MIN = -1")
                .ask("call 5 6 1 = 6; call 5 7 99 = 7; told 5 6 = 1; told 5 7 = 100");
    }

    private static void told() {
        Run.of("40", "At which minute b is told, if a is the first one;").ask("call 0 1 3; call 1 2 4; told 0 2 = 7; told 1 2 = 4; told 0 0 = 0; told 11 11 = 0; told 0 1 = 3");
        Run.of("40", "-2: never;").ask("told 0 1 = -2; told 11 0 = -2; call 0 1 3; told 1 0 = -2; told 0 1 = 3; told 0 2 = -2");
        Run.of("40", "NONE: no such people.").ask("told -1 0 = -1; told 12 0 = -1; told 0 -1 = -1; told 0 12 = -1; told 12 12 = -1; told -1 -1 = -1; told MAX 0 = -1; told 0 MIN = -1; told 0 11 = -2");
    }

    private static void soonest() {
        Run.of("41", "SOONEST.").ask("soonest = 0; call 11 0 1 = 1; soonest = 11; told 0 11 = -2; soonest = 11; call 0 11 1; soonest = 0");
    }

    private static void fewerMinutes() {
        Run run = Run.of("IV", "LENT: two TAPS of one CHILD on one DAY with fewer minutes between them than MINUTES between their STOPS");
        run.read(0, MAP).ask("child 0 0 0 0; child 0 0 0 0; tap 0 0 3 500; tap 0 1 3 510; lent 4 = 0; tap 0 1 3 509; lent 5 = 1; tap 0 1 3 490; lent 6 = 1; tap 0 1 3 491; lent 7 = 2")
                .ask("lentAt 7 0 false = 2; lentAt 7 0 true = 4; lentAt 7 1 false = 2; lentAt 7 1 true = 6; tap 1 0 3 509; lent 8 = 2; tap 0 0 4 509; lent 9 = 2; tap 0 0 2 509; lent 10 = 2");
        // at one stop, or at two of one place, there are 0 minutes: as many as between two taps at one minute
        run.again().read(0, MAP).ask("child 0 0 0 0; tap 0 0 3 500; tap 0 0 3 500; tap 0 3 3 500; tap 0 3 3 501; lent 5 = 0; tap 0 1 3 501; lent 6 = 4")
                .again().read(0, MAP).ask("child 0 0 0 0; tap 0 0 0 0; tap 0 1 0 1439; lent 3 = 0; tap 0 0 364 0; tap 0 1 364 9; lent 5 = 1; tap 0 1 363 9; lent 6 = 1");
    }

    private static void noMinutes() {
        Run run = Run.of("IV", "(or with none, also where it has not such a STOP)");
        run.read(0, MAP).ask("child 0 0 0 0; tap 0 0 3 0; tap 0 2 3 1439; lent 3 = 1; tap 0 2 3 1439; lent 4 = 2; tap 0 2 4 0; tap 0 2 4 1439; lent 6 = 2");
        run.again().read(0, MAP).ask("child 0 0 0 0; tap 0 3 3 0; tap 0 4 3 1439; lent 3 = 1; tap 0 4 3 700; lent 4 = 3; tap 0 5 5 0; tap 0 5 5 1439; lent 6 = 4; tap 0 4 6 0; tap 0 3 7 0; lent 8 = 4");
        run.again().read(0, MAP).ask("child 0 0 0 0; tap 0 0 3 0; tap 0 1 3 1439; lent 3 = 0; shut 0 3 3; lent 4 = 1; lent 3 = 0; annul 3; lent 5 = 0; lent 4 = 1");
        run.again().read(0, "").ask("child 0 0 0 0; tap 0 0 3 0; tap 0 0 3 1439; lent 3 = 1");
        // the first of the two, or the other one; the first stop that the text has not, and the last one of all
        run.again().read(0, MAP).ask("child 0 0 0 0; tap 0 4 3 0; tap 0 0 3 1439; lent 3 = 1; tap 0 5 4 0; tap 0 3 4 1439; lent 5 = 2; tap 0 3 5 0; tap 0 3 5 1439; lent 7 = 2");
    }

    private static void byText() {
        Run.of("IV", "by the TEXT IN FORCE;").read(2, MAP).read(4, MAP.replace("a b 1 10", "a b 1 20")).ask("child 0 0 0 0",
                "tap 0 0 1 500; tap 0 1 1 500; tap 0 0 2 500; tap 0 1 2 510; tap 0 0 3 500; tap 0 1 3 509; tap 0 0 4 500; tap 0 1 4 519; tap 0 0 5 500; tap 0 1 5 520",
                "lent 11 = 2; lentAt 11 0 false = 5; lentAt 11 1 false = 7; lent 3 = 0; lent 6 = 0; lent 7 = 1").read(0, MAP).ask("lent 11 = 2; lentAt 11 0 false = 1; lentAt 11 1 false = 5");
    }

    private static void numbered() {
        Run.of("IV", "numbered by the first TAP, then the second one.").read(0, MAP).ask("child 0 0 0 0; child 0 0 0 0; tap 1 0 0 500; tap 0 0 9 500; tap 0 1 9 500; tap 1 1 0 500",
                "tap 0 1 9 505; tap 1 1 0 505; lent 8 = 4; lentAt 8 0 false = 2; lentAt 8 0 true = 5; lentAt 8 1 false = 2; lentAt 8 1 true = 7; lentAt 8 2 false = 3",
                "lentAt 8 2 true = 4; lentAt 8 3 false = 3; lentAt 8 3 true = 6; lent 7 = 3; lentAt 7 1 false = 3; lentAt 7 2 true = 6; annul 5; lent 9 = 3; lentAt 9 0 true = 7");
    }

    private static void noneAhead() {
        // each of these is -2 but for what is wrong beside it
        Run run = Run.of("IV", "(NONE is looked at ahead of -2, everywhere.)");
        run.read(5, "place a;place e;school s at e 480;stop t at a;right if class==1;").ask("child 0 0 0 0; child 0 0 1 0");
        run.ask("dist 0 1 0 5 2 = -2; dist 0 1 0 4 2 = -1; dist 0 1 0 5 3 = -1; dist 0 1 3 5 2 = -1; dist 0 12 0 5 2 = -1; dist 12 11 0 5 2 = -1; dist 11 11 0 5 2 = -2",
                "right 0 5 2 = -2; right 0 4 2 = -1; right 0 5 0 = -1; right 0 5 3 = -1; stop 0 5 2 = -2; stop 0 4 2 = -1; stop 0 5 0 = -1; stop 0 5 3 = -1",
                "route 0 1 5 2 = -2; route 0 1 4 2 = -1; route 0 2 5 2 = -1; route 1 1 5 2 = -1; route 0 1 5 3 = -1; good 0 1 5 2 = -2; good 0 2 5 2 = -1; good 0 1 4 2 = -1",
                "pay 0 5 2 = -2; pay 1 5 2 = -1; pay 0 4 2 = -1; pay 0 5 3 = -1; routes 0 5 2 = -2; routes 1 5 2 = -1; routes 0 5 3 = -1; taxis 0 5 2 = -2; taxis 1 5 2 = -1",
                "taxis 0 5 3 = -1; fewest 0 5 2 = -2; fewest 1 5 2 = -1; fewest 0 5 3 = -1; fleet 5 2 = -2; fleet 4 2 = -1; fleet 5 3 = -1; shifted 5 2 = -2; shifted 4 2 = -1",
                "shifted 5 3 = -1; award 1 -1 = -2; award 1 6 = -1; award 11 -1 = -1; drives 1 0 = -2; drives 1 1 = -1; drives 11 0 = -1; told 0 1 = -2; told 0 12 = -1");
        run.refuse("shift 0 5 2 = -100; shift 1 5 2 = -100");
    }

    private static void lent() {
        Run.of("42", "How many are LENT as KNOWN by n (two TAPS each);").read(0, MAP).ask("child 0 0 0 0; tap 0 0 3 500; tap 0 1 3 500; tap 0 0 3 501; tap 0 1 3 501; lent 0 = 0; lent 1 = 0",
                "lent 2 = 0; lent 3 = 1; lent 4 = 2; lent 5 = 4; annul 1; lent 5 = 4; lent 6 = 2; annul 4; lent 7 = 1; lent 6 = 2");
        Run.of("42", "NONE: no such n.").ask("lent 0 = 0; lent 1 = -1; lent -1 = -1; lent MAX = -1; lent MIN = -1; child 0 0 0 0; lent 1 = 0; lent 2 = -1");
        Run.of("42", "(On DAYS without a TEXT IN FORCE none are.)").ask("child 0 0 0 0; tap 0 0 3 500; tap 0 1 3 500; tap 0 0 4 500; tap 0 1 4 500; lent 5 = 0; lentAt 5 0 false = -1")
                .read(4, MAP).ask("lent 5 = 1; lentAt 5 0 false = 3; lentAt 5 0 true = 4; lentAt 5 1 true = -1").read(3, MAP).ask("lent 5 = 2; lentAt 5 0 false = 1");
        // as many as can be: 99 taps, each two of them lent
        Run most = Run.of("42", "How many are LENT").read(0, "").ask("child 0 0 0 0");
        for (int i = 1; i < 100; i++) {
            most.ask("tap 0 0 3 " + i);
        }
        most.ask("lent 100 = 4851; lentAt 100 4850 false = 98; lentAt 100 4850 true = 99; lentAt 100 4851 false = -1; lentAt 100 0 true = 2; lentAt 100 98 false = 2; lentAt 100 97 true = 99");
    }

    private static void lentAt() {
        Run.of("43", "The first TAP's FACT (second: the other one's) of the i-th of them;").read(0, MAP).ask("child 0 0 0 0; tap 0 1 3 501; tap 0 0 3 500; lentAt 3 0 false = 1; lentAt 3 0 true = 2",
                "tap 0 2 3 0; lent 4 = 3; lentAt 4 1 false = 1; lentAt 4 1 true = 3; lentAt 4 2 false = 2; lentAt 4 2 true = 3");
        Run.of("43", "NONE: not so many, no such n.").read(0, MAP).ask("lentAt 0 0 false = -1; child 0 0 0 0; tap 0 1 3 501; lentAt 2 0 false = -1; tap 0 0 3 500; lentAt 3 0 false = 1; lentAt 3 1 false = -1",
                "lentAt 3 1 true = -1; lentAt 3 -1 false = -1; lentAt 3 -1 true = -1; lentAt 3 MAX false = -1; lentAt 3 MIN true = -1; lentAt 4 0 false = -1; lentAt -1 0 false = -1",
                "lentAt MAX 0 true = -1; lentAt MIN 0 false = -1; lentAt 2 0 true = -1");
    }

    private static void counts() {
        Rich.tell(Run.of("44", "0 TEXTS, 1 FACTS, 2 CHILDREN, 3 BIDS, 4 DRIVERS, 5 CALLS, 6 bytes on the tape,")).text("place a").ask("count 0 = 1; count 1 = 16; count 2 = 6; count 3 = 4; count 4 = 3",
                "count 5 = 5; count 6 = 7").again().ask("count 0 = 0; count 1 = 0; count 2 = 0; count 3 = 0; count 4 = 0; count 5 = 0; count 6 = 0; driver 3; leave 0 true; count 4 = 1");
        Run run = Run.of("44", "10 and a TEXT's number: its PLACES, 20 likewise: its WAYS, 30 likewise: its STOPS, 40 likewise: its RIGHTS.");
        run.read(0, MAP + "right if 1==1;").ask("count 10 = 3; count 20 = 1; count 30 = 4; count 40 = 1; count 11 = -1; count 21 = -1; count 31 = -1; count 41 = -1").read(0, "").read(364, "place a;place b;way a b 1 1;way a b 1 1;"
                + "school s at a 1;stop t at a;right if 1==1;right if 2==2;right if 3==3;").ask("count 10 = 3; count 11 = 0; count 12 = 2; count 20 = 1; count 21 = 0; count 22 = 2; count 30 = 4; count 31 = 0; count 32 = 1",
                        "count 40 = 1; count 41 = 0; count 42 = 3");
    }

    private static void noCounts() {
        Run run = Run.of("44", "NONE for others.");
        String never = "count 7 = -1; count 8 = -1; count 9 = -1; count -1 = -1; count -10 = -1; count MAX = -1; count MIN = -1; count 13 = -1; count 19 = -1; count 23 = -1; count 29 = -1"
                + "; count 33 = -1; count 39 = -1; count 43 = -1; count 49 = -1; count 50 = -1; count 51 = -1; count 52 = -1; count 60 = -1; count 100 = -1; count 110 = -1; count 410 = -1";
        run.ask(never, "count 10 = -1; count 20 = -1; count 30 = -1; count 40 = -1; count 12 = -1").read(0, "").ask(never, "count 10 = 0; count 11 = -1; count 21 = -1; count 31 = -1; count 41 = -1")
                .read(0, "").read(0, "").ask(never, "count 12 = 0; count 22 = 0; count 32 = 0; count 42 = 0").text("x").ask("read 0 = -2", never);
    }
}
