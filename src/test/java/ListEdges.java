/** The tender and the drivers: the first half of the terms IV, promises 31 to 38. */
final class ListEdges {
    private ListEdges() { }

    static void all() {
        routeCounts();
        bids();
        justOne();
        leastPrices();
        leastBid();
        bid();
        award();
        awarded();
        drivers();
        covers();
        leastDriver();
        driver();
        leave();
        weigh();
        cover();
        drives();
    }

    private static void routeCounts() {
        Run.of("IV", "TENDER, of k (1 .. 10) ROUTES 0 .. k - 1:").ask("bid 0 1 5; bid 0 512 7; bid 1 511 20; bid 1 510 10; award 1 -1 = 5; award 2 -1 = -2",
                "award 9 -1 = 15; award 10 -1 = 22; award 0 -1 = -1; award 11 -1 = -1; awarded 10 -1 9 = 1; awarded 10 -1 8 = 3; awarded 10 -1 0 = 0",
                "awarded 10 -1 10 = -1; awarded 9 -1 9 = -1; awarded 9 -1 8 = 3; awarded 1 -1 0 = 0");
    }

    private static void bids() {
        Run run = Run.of("IV", "BIDS (20 at most) of FIRMS 0 .. 5: a set (bits), a price.");
        run.ask("bid 0 1023 9999 = 0; bid 5 1 0 = 1; award 10 -1 = 9999; award 10 0 = -2; award 1 -1 = 0; award 1 5 = -2; award 1 0 = 0");
        for (int i = 2; i < 20; i++) {
            run.ask("bid 1 " + (1 << i % 10) + " 9999 = " + i);
        }
        run.refuse("bid 1 1 1 = -1; bid 0 1023 0 = -1").ask("count 3 = 20; award 10 -1 = 9999; award 10 0 = " + 9 * 9999);
    }

    private static void justOne() {
        Run.of("IV", "AWARD: BIDS so that each ROUTE is in just one of them (no other ROUTE in any):").ask("bid 0 3 10; bid 1 6 10; award 3 -1 = -2; award 2 -1 = 10",
                "bid 2 7 90; award 3 -1 = 90; award 2 -1 = 10; award 1 -1 = -2; bid 3 4 70; award 3 -1 = 80; bid 4 1 60; award 3 -1 = 70; awarded 3 -1 0 = 4",
                "awarded 3 -1 1 = 1; awarded 3 -1 2 = 1; award 1 -1 = 60")
                .again().ask("bid 0 5 1; bid 0 6 1; bid 0 3 1; award 3 -1 = -2; award 2 -1 = 1; bid 0 2 1; award 3 -1 = 2; awarded 3 -1 0 = 0; awarded 3 -1 1 = 3");
    }

    private static void leastPrices() {
        Run run = Run.of("IV", "the least sum of prices;");
        for (int i = 0; i < 10; i++) {
            run.ask("bid 0 " + (1 << i) + " 9999");
        }
        run.ask("award 10 -1 = 99990; award 9 -1 = 89991; bid 1 1023 9999; award 10 -1 = 9999; award 10 1 = 99990; bid 2 1023 0; award 10 -1 = 0; awarded 10 -1 9 = 11")
                .ask("awarded 10 2 9 = 10; awarded 10 1 9 = 11; award 9 -1 = 89991");
        run.again().ask("bid 0 3 21; bid 1 1 10; bid 1 2 10; award 2 -1 = 20; awarded 2 -1 0 = 1; awarded 2 -1 1 = 2; award 2 1 = 21; awarded 2 1 1 = 0");
    }

    private static void leastBid() {
        Run.of("IV", "of alike ones: the BID on the least ROUTE is the least,").ask("bid 0 1 10; bid 1 3 20; bid 2 2 10; award 2 -1 = 20; awarded 2 -1 0 = 0; awarded 2 -1 1 = 2")
                .again().ask("bid 1 3 20; bid 0 1 10; bid 2 2 10; award 2 -1 = 20; awarded 2 -1 0 = 0; awarded 2 -1 1 = 0")
                .again().ask("bid 0 2 10; bid 0 2 5; bid 1 1 10; bid 2 1 10; award 2 -1 = 15; awarded 2 -1 0 = 2; awarded 2 -1 1 = 1; awarded 2 1 0 = 3");
        Run.of("IV", "then that on the least ROUTE left, .. .").ask("bid 0 1 5; bid 0 6 5; bid 0 4 0; bid 0 3 10; bid 0 2 5; award 3 -1 = 10; awarded 3 -1 0 = 0",
                "awarded 3 -1 1 = 1; awarded 3 -1 2 = 1")
                // the bid on the least route is the same; the least route left is 1, though a lesser bid is on route 2
                .again().ask("bid 0 4 5; bid 0 5 10; bid 0 1 5; bid 0 6 10; bid 0 2 5; award 3 -1 = 15; awarded 3 -1 0 = 1; awarded 3 -1 1 = 4; awarded 3 -1 2 = 1")
                .again().ask("bid 0 4 5; bid 0 1 5; bid 0 6 10; bid 0 2 5; award 3 -1 = 15; awarded 3 -1 0 = 1; awarded 3 -1 1 = 2; awarded 3 -1 2 = 2")
                .again().ask("bid 0 4 5; bid 0 1 5; bid 0 2 5; bid 0 6 10; award 3 -1 = 15; awarded 3 -1 0 = 1; awarded 3 -1 1 = 2; awarded 3 -1 2 = 0");
    }

    private static void bid() {
        Run.of("31", "A BID: its number.").ask("bid 0 1 0 = 0; bid 5 1023 9999 = 1; bid 0 1 0 = 2; count 3 = 3");
        Run full = Run.of("31", "NONE, and nothing happens: 20 are there,");
        for (int i = 0; i < 20; i++) {
            full.ask("bid " + i % 6 + " " + (1 + i) + " " + i + " = " + i);
        }
        full.refuse("bid 0 1 0 = -1; bid 5 1023 9999 = -1").ask("count 3 = 20");
        Rich.tell(Run.of("31", "no such FIRM, set (1 .. 1023), price (0 .. 9999).")).refuse("bid -1 1 0 = -1; bid 6 1 0 = -1; bid MAX 1 0 = -1; bid MIN 1 0 = -1",
                "bid 0 0 0 = -1; bid 0 -1 0 = -1; bid 0 1024 0 = -1; bid 0 MAX 0 = -1; bid 0 MIN 0 = -1; bid 0 1 -1 = -1; bid 0 1 10000 = -1; bid 0 1 MAX = -1",
                "bid 0 1 MIN = -1").ask("bid 5 1023 9999 = 4; bid 0 1 0 = 5; count 3 = 6");
    }

    private static void award() {
        Run.of("32", "AWARD of k ROUTES without a FIRM's BIDS (NONE: with all): its sum;").ask("bid 0 1 5; bid 5 1 6; bid 5 1 4; bid 3 1 9; award 1 -1 = 4; award 1 0 = 4",
                "award 1 5 = 5; award 1 3 = 4; award 1 1 = 4; awarded 1 5 0 = 0; awarded 1 -1 0 = 2; bid 2 1 0; award 1 -1 = 0; award 1 2 = 4; award 1 5 = 0");
        Run.of("32", "-2: there is none;").ask("award 1 -1 = -2; award 10 0 = -2; bid 0 1 5; award 1 -1 = 5; award 1 0 = -2; award 1 1 = 5; award 2 -1 = -2");
        Run.of("32", "NONE: no such k, FIRM.").ask("bid 0 1 5; award 0 -1 = -1; award -1 -1 = -1; award 11 -1 = -1; award MAX -1 = -1; award MIN -1 = -1; award 1 -2 = -1",
                "award 1 6 = -1; award 1 MAX = -1; award 1 MIN = -1; award 1 0 = -2; award 1 5 = 5; award 10 5 = -2; award 0 6 = -1; award 11 6 = -1");
    }

    private static void awarded() {
        Run.of("33", "The BID by which a ROUTE is given in it;").ask("bid 0 512 1; bid 1 511 1; awarded 10 -1 0 = 1; awarded 10 -1 8 = 1; awarded 10 -1 9 = 0; awarded 9 -1 8 = 1",
                "awarded 10 0 9 = -1; bid 2 512 3; awarded 10 0 9 = 2; awarded 10 -1 9 = 0");
        Run.of("33", "NONE: none, no such ones.").ask("awarded 1 -1 0 = -1; bid 0 1 5; awarded 1 -1 0 = 0; awarded 1 0 0 = -1; awarded 2 -1 0 = -1; awarded 1 -1 1 = -1",
                "awarded 1 -1 -1 = -1; awarded 1 -1 MAX = -1; awarded 1 -1 MIN = -1; awarded 0 -1 0 = -1; awarded 11 -1 0 = -1; awarded -1 -1 0 = -1",
                "awarded MAX -1 0 = -1; awarded MIN -1 0 = -1; awarded 1 -2 0 = -1; awarded 1 6 0 = -1; awarded 1 MAX 0 = -1; awarded 1 MIN 0 = -1; awarded 1 5 0 = 0");
    }

    private static void drivers() {
        Run run = Run.of("IV", "DRIVERS, 8 at most: a set of ROUTES each that they can drive; some leave.");
        for (int i = 0; i < 8; i++) {
            run.ask("driver " + (1 << i + 2) + " = " + i);
        }
        run.refuse("driver 1 = -1; driver 1023 = -1").ask("count 4 = 8; cover 10 = 2; drives 10 0 = -2; drives 10 1 = -2; drives 10 2 = 0; drives 10 9 = 7",
                "cover 2 = 2; cover 3 = 2; leave 7 true = true; cover 10 = 3; drives 10 9 = -2; drives 10 8 = 6; leave 0 true = true; cover 10 = 4; leave 7 false = true",
                "cover 10 = 3; drives 10 9 = 7; drives 10 2 = -2");
        run.again().ask("driver 0 = 0; cover 10 = 10; driver 1023 = 1; cover 10 = 9; drives 10 0 = 1; drives 10 1 = -2");
    }

    private static void covers() {
        Run.of("IV", "COVER of k ROUTES with RIDERS (weights): each DRIVER who is there drives one at most;").ask("driver 1023; driver 1023; cover 1 = 0; cover 2 = 0; cover 3 = 1",
                "cover 10 = 8; leave 0 true; cover 1 = 0; cover 2 = 1; drives 2 0 = 1; drives 2 1 = -2; leave 1 true; cover 2 = 2; drives 2 0 = -2");
        Run.of("IV", "the least sum of weights of ROUTES that nobody drives;").ask("driver 7; weigh 0 5; weigh 1 6; weigh 2 4; cover 3 = 9; drives 3 1 = 0; drives 3 0 = -2",
                "driver 2; cover 3 = 4; drives 3 0 = 0; drives 3 1 = 1; driver 2; cover 3 = 4; weigh 2 20; cover 3 = 5; drives 3 2 = 0; drives 3 1 = 1; drives 3 0 = -2")
                .again().ask("weigh 0 99; weigh 1 99; weigh 2 99; weigh 3 99; weigh 4 99; weigh 5 99; weigh 6 99; weigh 7 99; weigh 8 99; weigh 9 99; cover 10 = 990",
                        "cover 9 = 891; driver 512; cover 10 = 891; cover 9 = 891; driver 1023; cover 10 = 792; cover 9 = 792");
        // a driver of two routes makes room for the one of but one
        Run.of("IV", "the least sum of weights").ask("driver 3; driver 1; driver 6; driver 4; cover 3 = 0; leave 3 true; cover 3 = 0; drives 3 0 = 1; drives 3 1 = 0; drives 3 2 = 2");
    }

    private static void leastDriver() {
        Run.of("IV", "of alike ones: ROUTE 0 has the least DRIVER that can be so (nobody last),").ask("driver 3; driver 3; cover 2 = 0; drives 2 0 = 0; drives 2 1 = 1; cover 1 = 0; drives 1 0 = 0")
                .again().ask("driver 2; driver 3; cover 2 = 0; drives 2 0 = 1; drives 2 1 = 0")
                .again().ask("driver 3; driver 1; cover 2 = 0; drives 2 0 = 1; drives 2 1 = 0; drives 1 0 = 0")
                // one driver for two routes of alike weights: route 0 has him, and nobody comes last
                .again().ask("driver 3; cover 2 = 1; drives 2 0 = 0; drives 2 1 = -2; weigh 1 2; cover 2 = 1; drives 2 0 = -2; drives 2 1 = 0")
                .again().ask("driver 3; weigh 0 0; weigh 1 0; cover 2 = 0; drives 2 0 = 0; drives 2 1 = -2")
                .again().ask("driver 1; weigh 0 0; cover 1 = 0; drives 1 0 = 0");
        Run.of("IV", "then ROUTE 1, .. .").ask("driver 6; driver 7; driver 6; cover 3 = 0; drives 3 0 = 1; drives 3 1 = 0; drives 3 2 = 2")
                .again().ask("driver 12; driver 1; driver 14; cover 4 = 1; drives 4 0 = 1; drives 4 1 = 2; drives 4 2 = 0; drives 4 3 = -2")
                .again().ask("driver 7; driver 7; weigh 0 2; cover 3 = 1; drives 3 0 = 0; drives 3 1 = 1; drives 3 2 = -2");
    }

    private static void driver() {
        Run.of("34", "A DRIVER: its number.").ask("driver 0 = 0; driver 1023 = 1; driver 0 = 2; count 4 = 3");
        Run full = Run.of("34", "NONE, and nothing happens: 8 are there,");
        for (int i = 0; i < 8; i++) {
            full.ask("driver " + i + " = " + i);
        }
        full.refuse("driver 0 = -1; driver 1023 = -1").ask("leave 3 true = true").refuse("driver 8 = -1").ask("count 4 = 8");
        Rich.tell(Run.of("34", "no such set (0 .. 1023).")).refuse("driver -1 = -1; driver 1024 = -1; driver MAX = -1; driver MIN = -1").ask("driver 1023 = 3; driver 0 = 4");
    }

    private static void leave() {
        Run.of("35", "A DRIVER leaves, or is there again: true;").ask("driver 1; cover 1 = 0; leave 0 true = true; cover 1 = 1; drives 1 0 = -2; leave 0 true = true; cover 1 = 1",
                "leave 0 false = true; cover 1 = 0; drives 1 0 = 0; leave 0 false = true; cover 1 = 0; count 4 = 1");
        Run.of("35", "false: no such one.").refuse("leave 0 true = false; leave 0 false = false; leave -1 true = false").ask("driver 1; leave 0 true = true");
        Rich.tell(Run.of("35", "false: no such one.")).refuse("leave 3 true = false; leave -1 true = false; leave MAX true = false; leave MIN false = false",
                "leave 8 true = false; leave 7 false = false").ask("leave 2 true = true");
    }

    private static void weigh() {
        Run.of("36", "RIDERS of a ROUTE 0 .. 9 for COVER (1 each at first): true;").ask("cover 10 = 10; cover 1 = 1; weigh 0 0 = true; cover 10 = 9; cover 1 = 0; weigh 9 99 = true",
                "cover 10 = 107; cover 9 = 8; weigh 0 99 = true; weigh 0 3 = true; cover 10 = 110; weigh 9 0 = true; cover 10 = 11")
                .again().ask("weigh 0 7 = true; cover 1 = 7; weigh 0 8 = true; cover 1 = 8; driver 1; cover 1 = 0; leave 0 true; cover 1 = 8; weigh 0 9; drives 1 0 = -2; cover 1 = 9");
        Rich.tell(Run.of("36", "false: no such ROUTE, weight (0 .. 99).")).refuse("weigh -1 1 = false; weigh 10 1 = false; weigh MAX 1 = false; weigh MIN 1 = false",
                "weigh 0 -1 = false; weigh 0 100 = false; weigh 0 MAX = false; weigh 0 MIN = false").ask("weigh 9 99 = true; weigh 0 0 = true");
    }

    private static void cover() {
        Run.of("37", "The sum of weights that nobody drives in COVER of k ROUTES;").ask("cover 1 = 1; cover 10 = 10; driver 1; cover 1 = 0; cover 10 = 9; weigh 5 50; cover 6 = 54; cover 5 = 4");
        Run.of("37", "NONE: no such k.").ask("cover 0 = -1; cover 11 = -1; cover -1 = -1; cover MAX = -1; cover MIN = -1; cover 1 = 1; cover 10 = 10");
    }

    private static void drives() {
        Run.of("38", "The DRIVER of a ROUTE in it;").ask("driver 512; driver 1; drives 10 9 = 0; drives 10 0 = 1; drives 1 0 = 1; drives 9 8 = -2");
        Run.of("38", "-2: nobody;").ask("drives 1 0 = -2; drives 10 9 = -2; driver 0; drives 1 0 = -2; driver 1; drives 1 0 = 1; leave 1 true; drives 1 0 = -2");
        Run.of("38", "NONE: no such ones.").ask("driver 1; drives 0 0 = -1; drives 11 0 = -1; drives -1 0 = -1; drives MAX 0 = -1; drives MIN 0 = -1; drives 1 1 = -1; drives 1 -1 = -1",
                "drives 10 10 = -1; drives 10 9 = -2; drives 1 0 = 0; drives 5 5 = -1; drives 5 4 = -2; drives 5 MAX = -1; drives 5 MIN = -1");
    }
}
