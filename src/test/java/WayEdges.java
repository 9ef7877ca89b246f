/** Sums of ways and their rows: the middle of the terms II, promises 14 and 15. */
final class WayEdges {
    private WayEdges() { }

    static void all() {
        byDayAndText();
        far();
        safe();
        minutes();
        rows();
        firstRows();
        noWays();
        toItself();
        dist();
        distRefused();
        row();
        rowRefused();
    }

    /** Twelve places in a line, each way of the most metres and minutes. */
    static String line() {
        StringBuilder text = new StringBuilder();
        for (char c = 'a'; c <= 'l'; c++) {
            text.append("place q").append(c).append(";");
        }
        for (char c = 'a'; c < 'l'; c++) {
            text.append("way q").append(c).append(" q").append((char) (c + 1)).append(" 9999 99;");
        }
        return text.toString();
    }

    private static void rowOf(Run run, String asked, int... places) {
        for (int i = 0; i < places.length; i++) {
            run.ask("row " + asked + " 0 0 " + i + " = " + places[i]);
        }
        for (String i : new String[] {"-1", "MIN", "" + places.length, "11", "12", "MAX"}) {
            if (!(i.equals("11") && places.length == 12)) {
                run.ask("row " + asked + " 0 0 " + i + " = -1");
            }
        }
    }

    private static void byDayAndText() {
        Run.of("II", "On a DAY, as KNOWN by n, by the TEXT IN FORCE:").read(0, "place a;place b;way a b 5 1;")
                .read(10, "place b;place a;way a b 7 2;way a b 8 3;").ask("shut 0 9 10; shut 1 9 10; shut 0 11 11; annul 1",
                        "dist 0 1 0 8 0 = 5; dist 0 1 0 9 0 = 5; dist 0 1 0 10 0 = 7; dist 0 1 0 9 1 = -2; dist 0 1 0 10 1 = 8",
                        "dist 0 1 0 10 2 = -2; dist 0 1 0 10 3 = -2; dist 0 1 0 10 4 = 8; dist 0 1 0 11 2 = 7; dist 0 1 0 11 3 = 8",
                        "dist 0 1 0 12 4 = 7; dist 0 1 2 12 4 = 2; dist 0 1 0 9 4 = -2; dist 0 1 0 8 4 = 5; row 0 1 0 10 2 0 = -1",
                        "row 0 1 0 10 4 1 = 1");
    }

    private static void far() {
        Run.of("II", "FAR of two PLACES: the least sum of metres of WAYS (either way) that are not SHUT;").read(0, line())
                .ask("dist 0 11 0 0 0 = 109989; dist 11 0 0 0 0 = 109989; dist 0 1 0 0 0 = 9999; dist 5 3 0 0 0 = 19998",
                        "shut 10 3 3; dist 0 11 0 3 1 = -2; dist 0 10 0 3 1 = 99990; dist 11 11 0 3 1 = 0; dist 0 11 0 4 1 = 109989");
        Run run = Run.of("II", "the least sum of metres").read(0, "place a;place b;place c;way a b 5 1;way b a 4 1;way b c 3 1 bad;"
                + "way c a 8 1;way a c 7 9;");
        run.ask("dist 0 1 0 0 0 = 4; dist 1 0 0 0 0 = 4; dist 0 2 0 0 0 = 7; dist 2 0 0 0 0 = 7; dist 1 2 0 0 0 = 3",
                "shut 1 0 0; dist 0 1 0 0 1 = 5; dist 2 0 0 0 1 = 7; shut 4 0 0; dist 0 2 0 0 2 = 8; shut 2 0 0; dist 1 2 0 0 3 = 13",
                "shut 3 0 0; dist 0 2 0 0 4 = -2; dist 0 1 0 0 4 = 5; shut 0 0 0; dist 0 1 0 0 5 = -2");
    }

    private static void safe() {
        Run.of("II", "SAFE: without bad ones;").read(0, "place a;place b;place c;way a b 5 1 bad;way a b 6 9;way b c 1 1 bad;")
                .ask("dist 0 1 1 0 0 = 6; dist 1 0 1 0 0 = 6; dist 0 1 0 0 0 = 5; dist 0 2 0 0 0 = 6; dist 0 2 1 0 0 = -2; dist 2 2 1 0 0 = 0",
                        "shut 1 0 0; dist 0 1 1 0 1 = -2; dist 0 1 0 0 1 = 5; dist 0 1 1 1 1 = 6")
                .again().read(0, "place a;place b;" + "way a b 5 1 bad;".repeat(23) + "way a b 9 1;").ask("dist 0 1 1 0 0 = 9")
                .again().read(0, "place a;place b;" + "way a b 5 1;".repeat(23) + "way a b 3 1 bad;").ask("dist 0 1 1 0 0 = 5; dist 0 1 0 0 0 = 3");
    }

    private static void minutes() {
        Run.of("II", "MINUTES: the least sum of minutes.").read(0, line()).ask("dist 0 11 2 0 0 = 1089; dist 11 0 2 0 0 = 1089")
                .again().read(0, "place a;place b;place c;way a b 1 9 bad;way a c 900 4;way c b 900 4;way c b 1 5;")
                .ask("dist 0 1 2 0 0 = 8; dist 0 1 0 0 0 = 1; dist 0 1 1 0 0 = 901; shut 2 0 0; dist 0 1 2 0 1 = 9; shut 1 0 0",
                        "dist 0 1 2 0 2 = 9; dist 0 2 2 0 2 = 14");
    }

    private static void rows() {
        Run run = Run.of("II", "Its ROW: the PLACES gone through;").read(0, line());
        rowOf(run, "0 11 0", 0, 1, 2, 3, 4, 5, 6, 7, 8, 9, 10, 11);
        rowOf(run, "11 0 1", 11, 10, 9, 8, 7, 6, 5, 4, 3, 2, 1, 0);
        rowOf(run, "11 9 2", 11, 10, 9);
        Run by = run.again().read(0, "place a;place b;place c;place d;way a d 5 9 bad;way a b 4 4;way b d 4 4;way a c 6 3;way c d 6 3;");
        rowOf(by, "0 3 0", 0, 3);
        rowOf(by, "0 3 1", 0, 1, 3);
        rowOf(by, "0 3 2", 0, 2, 3);
        rowOf(by, "3 0 2", 3, 2, 0);
    }

    private static void firstRows() {
        Run run = Run.of("II", "of several with the least sum the first (the second PLACE least, then the third one, ..).");
        String six = "place a;place b;place c;place d;place e;place f;";
        // by the second place, though the third one is greater then
        Run second = run.read(0, six + "way a c 1 1;way c d 1 1;way d f 1 1;way a b 1 1;way b e 1 1;way e f 1 1;");
        rowOf(second, "0 5 0", 0, 1, 4, 5);
        rowOf(second, "5 0 0", 5, 3, 2, 0);
        // by the third place where the second one is the same
        Run third = run.again().read(0, six + "way a b 1 1;way b e 1 1;way e f 1 1;way b d 1 1;way d f 1 1;way b c 1 1;way c f 2 2;");
        rowOf(third, "0 5 2", 0, 1, 3, 5);
        rowOf(third, "5 0 2", 5, 3, 1, 0);
        // a longer row is first if its second place is less, and is not if that is greater
        Run more = run.again().read(0, six + "way a c 2 2;way a b 1 1;way b c 1 1;way c e 2 2;way c f 1 1;way f e 1 1;");
        rowOf(more, "0 2 0", 0, 1, 2);
        rowOf(more, "2 4 0", 2, 4);
        rowOf(more, "0 4 1", 0, 1, 2, 4);
        // a way that is shut, or is bad, is not gone by, though it is as short
        Run shut = run.again().read(0, six + "way a b 2 2 bad;way a c 1 1;way c b 1 1;").ask("shut 0 5 5");
        rowOf(shut, "0 1 0", 0, 1);
        rowOf(shut, "0 1 1", 0, 2, 1);
        shut.ask("row 0 1 0 5 1 1 = 2; row 0 1 2 5 1 1 = 2; row 0 1 2 5 0 1 = 1; row 0 1 0 5 1 2 = 1; row 0 1 0 6 1 1 = 1");
        rowOf(run.again().read(0, six + "way a b 2 2;".repeat(21) + "way a c 2 2;way c d 2 2;way d e 2 2;"), "1 4 0", 1, 0, 2, 3, 4);
        // two ways beside each other are one row
        rowOf(run.again().read(0, six + "way a b 1 1;way b a 1 1;way b c 1 1;"), "0 2 0", 0, 1, 2);
    }

    private static void noWays() {
        Run run = Run.of("II", "There is none if no WAYS lead there,").read(0, "place a;place b;place c;way a b 1 1;")
                .ask("dist 0 2 0 0 0 = -2; dist 2 1 1 0 0 = -2; dist 0 2 2 0 0 = -2; dist 0 1 0 0 0 = 1");
        rowOf(run, "0 2 0");
        rowOf(run, "2 0 2");
        Run none = Run.of("II", "or there is no such PLACE in the TEXT;").read(0, "place a;place b;way a b 1 1;")
                .ask("dist 0 2 0 0 0 = -2; dist 2 0 0 0 0 = -2; dist 2 2 0 0 0 = -2; dist 11 11 1 0 0 = -2; dist 0 11 2 0 0 = -2; dist 1 1 0 0 0 = 0");
        rowOf(none, "2 2 0");
        rowOf(none, "0 2 1");
        rowOf(none, "2 0 1");
        none.again().read(0, "").ask("dist 0 0 0 0 0 = -2; dist 11 0 0 0 0 = -2; row 0 0 0 0 0 0 = -1")
                .again().read(0, line()).ask("dist 11 11 0 0 0 = 0; dist 11 10 0 0 0 = 9999")
                .again().read(0, "place a;place b;way a b 1 1;").read(5, "place a;").ask("dist 0 1 0 4 0 = 1; dist 0 1 0 5 0 = -2");
    }

    private static void toItself() {
        Run run = Run.of("II", "it is 0 from a PLACE there is to itself.").read(0, "place a;place b;way a b 1 1;place c;");
        run.ask("dist 0 0 0 0 0 = 0; dist 1 1 1 0 0 = 0; dist 2 2 0 0 0 = 0; dist 2 2 1 0 0 = 0; dist 2 2 2 0 0 = 0",
                "shut 0 0 0; dist 0 0 0 0 1 = 0; dist 3 3 0 0 0 = -2");
        rowOf(run, "0 0 0", 0);
        rowOf(run, "2 2 2", 2);
    }

    private static void dist() {
        Run.of("14", "Of two PLACES: what 0 FAR, 1 SAFE, 2 MINUTES;").read(0, "place a;place b;way a b 5 4 bad;way a b 6 7;")
                .ask("dist 0 1 0 0 0 = 5; dist 0 1 1 0 0 = 6; dist 0 1 2 0 0 = 4");
        Run.of("14", "-2: none;").read(0, "place a;place b;").ask("dist 0 1 0 0 0 = -2; dist 0 1 1 0 0 = -2; dist 0 1 2 0 0 = -2",
                "dist 2 2 2 0 0 = -2; dist 0 11 0 0 0 = -2");
    }

    private static void distRefused() {
        Run.of("14", "NONE: no TEXT IN FORCE, no such n, what, PLACES (0 .. 11).").ask("dist 0 0 0 0 0 = -1")
                .read(5, "place a;").ask("shut 0 0 0", "dist 0 0 0 4 0 = -1; dist 0 0 0 5 0 = 0; dist 0 0 0 364 1 = 0; dist 0 0 0 365 0 = -1",
                        "dist 0 0 0 -1 0 = -1; dist 0 0 0 5 -1 = -1; dist 0 0 0 5 2 = -1; dist 0 0 0 5 MAX = -1; dist 0 0 0 5 MIN = -1",
                        "dist 0 0 -1 5 0 = -1; dist 0 0 3 5 0 = -1; dist 0 0 MAX 5 0 = -1; dist 0 0 MIN 5 0 = -1; dist 0 0 2 5 0 = 0",
                        "dist -1 0 0 5 0 = -1; dist 12 0 0 5 0 = -1; dist MAX 0 0 5 0 = -1; dist MIN 0 0 5 0 = -1; dist 0 -1 0 5 0 = -1",
                        "dist 0 12 0 5 0 = -1; dist 0 MAX 0 5 0 = -1; dist 0 MIN 0 5 0 = -1; dist 11 0 0 5 0 = -2; dist 0 11 0 5 0 = -2");
    }

    private static void row() {
        Run.of("15", "The i-th PLACE of its ROW (a itself is the 0-th);").read(0, "place a;place b;place c;way a b 1 1;way b c 1 1;")
                .ask("row 0 2 0 0 0 0 = 0; row 0 2 0 0 0 1 = 1; row 0 2 0 0 0 2 = 2; row 2 0 2 0 0 0 = 2; row 2 0 2 0 0 2 = 0; row 1 1 1 0 0 0 = 1");
    }

    private static void rowRefused() {
        Run.of("15", "NONE: not so many, none, likewise.").ask("row 0 0 0 0 0 0 = -1").read(5, "place a;place b;way a b 1 1;place c;")
                .ask("shut 9 0 0; row 0 1 0 5 0 1 = 1; row 0 1 0 5 0 2 = -1; row 0 1 0 5 0 -1 = -1; row 0 1 0 5 0 MAX = -1; row 0 1 0 5 0 MIN = -1",
                        "row 0 0 0 5 0 1 = -1; row 0 2 0 5 0 0 = -1; row 3 3 0 5 0 0 = -1; row 0 1 0 4 0 0 = -1; row 0 1 0 365 0 0 = -1",
                        "row 0 1 0 -1 0 0 = -1; row 0 1 0 5 -1 0 = -1; row 0 1 0 5 2 0 = -1; row 0 1 0 5 1 0 = 0; row 0 1 -1 5 0 0 = -1",
                        "row 0 1 3 5 0 0 = -1; row -1 1 0 5 0 0 = -1; row 12 1 0 5 0 0 = -1; row 0 -1 0 5 0 0 = -1; row 0 12 0 5 0 0 = -1",
                        "row MAX MIN 0 5 0 0 = -1; row 0 11 0 5 0 0 = -1");
    }
}
