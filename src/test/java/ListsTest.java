/** Promises 31 to 43: bids, drivers, snow and passes lent. */
public final class ListsTest {
    private static final int MOST = Integer.MAX_VALUE;
    private static final int LEAST = Integer.MIN_VALUE;

    public static void main(String[] args) {
        bids();
        awards();
        drivers();
        covers();
        calls();
        snow();
        lent();
        lentByText();
        Check.finish();
    }

    private static void bids() {
        SchoolRides x = new SchoolRides();
        int[][] wrong = {{-1, 1, 1}, {6, 1, 1}, {0, 0, 1}, {0, 1024, 1}, {0, -1, 1}, {0, 1, -1}, {0, 1, 10000},
            {MOST, 1, 1}, {0, MOST, 1}, {0, 1, LEAST}};
        for (int[] w : wrong) {
            Check.due("bid", x.bid(w[0], w[1], w[2]), -1);
        }
        Check.due("bids", x.count(3), 0);
        for (int i = 0; i < 20; i++) {
            Check.due("bid", x.bid(i % 6, 1023, 9999 - i), i);
        }
        Check.due("21st bid", x.bid(0, 1, 0), -1);
        Check.due("bids", x.count(3), 20);
        Check.due("award", x.award(10, -1), 9980);
        Check.due("awarded", x.awarded(10, -1, 9), 19);
        Check.due("award of 9: the sets are wider", x.award(9, -1), -2);
        Check.due("awarded of 9", x.awarded(9, -1, 0), -1);
    }

    private static void awards() {
        SchoolRides x = new SchoolRides();
        Check.due("no bids", x.award(1, -1), -2);
        Check.due("no bids", x.awarded(1, -1, 0), -1);
        x.bid(0, 7, 60);
        x.bid(1, 1, 10);
        x.bid(2, 6, 50);
        x.bid(1, 2, 20);
        x.bid(3, 4, 30);
        x.bid(4, 3, 25);
        Check.due("one", x.award(1, -1), 10);
        Check.due("two", x.award(2, -1), 25);
        Check.due("two by", x.awarded(2, -1, 0), 5);
        Check.due("two by", x.awarded(2, -1, 1), 5);
        Check.due("two without 4", x.award(2, 4), 30);
        Check.due("by", x.awarded(2, 4, 0), 1);
        Check.due("by", x.awarded(2, 4, 1), 3);
        Check.due("three", x.award(3, -1), 55);
        Check.due("by", x.awarded(3, -1, 2), 4);
        Check.due("three without 4", x.award(3, 4), 60);
        // 60 by bid 0 alone, by 1 and 2, by 1 and 3 and 4: the bid on route 0 is the least
        for (int route = 0; route < 3; route++) {
            Check.due("the least bid", x.awarded(3, 4, route), 0);
        }
        Check.due("without 0: four and four of alike sums", x.award(3, 0), 55);
        Check.due("route beyond", x.awarded(3, 4, 3), -1);
        Check.due("route below", x.awarded(3, 4, -1), -1);
        x.bid(5, 7, 55);
        Check.due("the sum stays", x.award(3, -1), 55);
        Check.due("the least bid on route 0", x.awarded(3, -1, 0), 5);
        Check.due("four: nobody bids", x.award(4, -1), -2);
        int[] wrong = {0, 11, -1, MOST, LEAST};
        for (int k : wrong) {
            Check.due("no such k", x.award(k, -1), -1);
            Check.due("no such k", x.awarded(k, -1, 0), -1);
        }
        for (int firm : new int[] {-2, 6, MOST, LEAST}) {
            Check.due("no such firm", x.award(1, firm), -1);
            Check.due("no such firm", x.awarded(1, firm, 0), -1);
        }
        SchoolRides y = new SchoolRides();
        y.bid(0, 1, 5);
        Check.due("one", y.award(1, -1), 5);
        y.bid(0, 6, 5);
        y.bid(0, 4, 0);
        y.bid(0, 3, 10);
        y.bid(0, 2, 5);
        Check.due("the second bid on the least route left", y.award(3, -1), 10);
        Check.due("by", y.awarded(3, -1, 0), 0);
        Check.due("by", y.awarded(3, -1, 1), 1);
        Check.due("by", y.awarded(3, -1, 2), 1);
    }

    private static void drivers() {
        SchoolRides x = new SchoolRides();
        for (int set : new int[] {-1, 1024, MOST, LEAST}) {
            Check.due("driver", x.driver(set), -1);
        }
        Check.due("leave", x.leave(0, true), false);
        for (int i = 0; i < 8; i++) {
            Check.due("driver", x.driver(i == 0 ? 0 : 1023), i);
        }
        Check.due("9th driver", x.driver(1), -1);
        Check.due("drivers", x.count(4), 8);
        Check.due("leave", x.leave(7, true), true);
        Check.due("leave", x.leave(8, true), false);
        Check.due("leave", x.leave(-1, false), false);
        Check.due("weigh", x.weigh(-1, 1), false);
        Check.due("weigh", x.weigh(10, 1), false);
        Check.due("weigh", x.weigh(0, -1), false);
        Check.due("weigh", x.weigh(0, 100), false);
        Check.due("six drive", x.cover(10), 4);
        Check.due("weigh", x.weigh(9, 99), true);
        Check.due("weigh", x.weigh(0, 0), true);
        Check.due("the heavy one is driven", x.cover(10), 3);
    }

    private static void covers() {
        SchoolRides x = new SchoolRides();
        Check.due("nobody there", x.cover(10), 10);
        Check.due("nobody drives", x.drives(10, 9), -2);
        for (int k : new int[] {0, 11, -1, MOST, LEAST}) {
            Check.due("no such k", x.cover(k), -1);
            Check.due("no such k", x.drives(k, 0), -1);
        }
        Check.due("no such route", x.drives(3, 3), -1);
        Check.due("no such route", x.drives(3, -1), -1);
        x.driver(3);
        x.driver(1);
        x.driver(8);
        Check.due("two of three", x.cover(3), 1);
        Check.due("route 0", x.drives(3, 0), 1);
        Check.due("route 1", x.drives(3, 1), 0);
        Check.due("route 2", x.drives(3, 2), -2);
        Check.due("one route: the least driver", x.drives(1, 0), 0);
        Check.due("four", x.cover(4), 1);
        Check.due("route 3", x.drives(4, 3), 2);
        x.leave(1, true);
        Check.due("a driver less", x.cover(3), 2);
        Check.due("of alike ones route 0 is driven", x.drives(3, 0), 0);
        Check.due("and route 1 not", x.drives(3, 1), -2);
        x.weigh(1, 2);
        Check.due("route 1 weighs more", x.cover(3), 2);
        Check.due("route 0", x.drives(3, 0), -2);
        Check.due("route 1", x.drives(3, 1), 0);
        x.leave(1, false);
        Check.due("there again", x.cover(3), 1);
        Check.due("route 0", x.drives(3, 0), 1);
        x.weigh(0, 0);
        x.weigh(1, 0);
        Check.due("weights of 0", x.cover(2), 0);
        Check.due("the least driver first", x.drives(2, 0), 0);
        Check.due("then nobody", x.drives(2, 1), -2);
        Check.due("cover of one", x.cover(1), 0);
        x.leave(0, true);
        Check.due("one driver less, asked alike", x.drives(1, 0), 1);
        x.leave(0, true);
        Check.due("left twice", x.drives(2, 0), 1);
        x.leave(0, false);
        Check.due("there again", x.drives(2, 0), 0);
    }

    private static void calls() {
        SchoolRides x = new SchoolRides();
        int[][] wrong = {{-1, 0, 1}, {12, 0, 1}, {0, -1, 1}, {0, 12, 1}, {3, 3, 1}, {0, 1, 0}, {0, 1, 100}, {0, 1, LEAST},
            {MOST, 0, 1}};
        for (int[] w : wrong) {
            Check.due("call", x.call(w[0], w[1], w[2]), -1);
        }
        Check.due("calls", x.count(5), 0);
        for (int i = 1; i <= 30; i++) {
            Check.due("call", x.call(i % 2, 2, 99), i);
        }
        Check.due("31st call", x.call(0, 1, 1), -1);
        Check.due("calls", x.count(5), 30);
        Check.due("told(-1, 0)", x.told(-1, 0), -1);
        Check.due("told(0, 12)", x.told(0, 12), -1);
        Check.due("told(12, 12)", x.told(12, 12), -1);
    }

    private static void snow() {
        SchoolRides x = new SchoolRides();
        Check.due("soonest of none", x.soonest(), 0);
        x.call(5, 1, 10);
        Check.due("one calls one", x.soonest(), 5);
        x.call(5, 2, 1);
        x.call(5, 1, 1);
        x.call(5, 3, 1);
        Check.due("told itself", x.told(5, 5), 0);
        Check.due("first call", x.told(5, 1), 10);
        Check.due("second call", x.told(5, 2), 11);
        Check.due("behind a call to one who is told", x.told(5, 3), 13);
        Check.due("never", x.told(5, 4), -2);
        Check.due("never back", x.told(1, 5), -2);
        x.call(2, 3, 1);
        Check.due("told ahead by another", x.told(5, 3), 12);
        x.call(3, 4, 7);
        Check.due("and tells on", x.told(5, 4), 19);
        x.call(0, 5, 2);
        Check.due("the most people", x.soonest(), 0);
        Check.due("through another", x.told(0, 4), 21);
        x.call(1, 0, 99);
        Check.due("all alike: the last one told soonest", x.soonest(), 0);
        // with 0: last at 21; with 5: 0 is told at 10 + 99
        Check.due("told(5, 0)", x.told(5, 0), 109);
        SchoolRides y = new SchoolRides();
        y.call(1, 2, 5);
        y.call(2, 1, 4);
        Check.due("of two the soonest", y.soonest(), 2);
        y.call(4, 3, 4);
        Check.due("of alike ones the least", y.soonest(), 2);
        y.call(3, 6, 1);
        Check.due("the most", y.soonest(), 4);
        Check.due("told(4, 6)", y.told(4, 6), 5);
    }

    private static void lent() {
        SchoolRides x = Check.with("place a;place b;place c;way a b 1 10;stop p at a;stop q at b;stop r at c;stop t at a;");
        x.child(0, 0, 0, 0);
        x.child(0, 0, 0, 0);
        Check.due("none", x.lent(2), 0);
        x.tap(0, 0, 3, 500);
        x.tap(0, 1, 3, 510);
        Check.due("just so many minutes", x.lent(4), 0);
        x.tap(0, 1, 3, 491);
        Check.due("nine minutes, told later", x.lent(5), 1);
        Check.due("the first tap by number", x.lentAt(5, 0, false), 2);
        Check.due("the second", x.lentAt(5, 0, true), 4);
        x.tap(1, 1, 3, 500);
        x.tap(0, 1, 4, 500);
        Check.due("another child, another day", x.lent(7), 1);
        x.tap(0, 3, 3, 500);
        Check.due("a stop at the same place", x.lent(8), 2);
        Check.due("by the first, then the second", x.lentAt(8, 1, false), 4);
        Check.due("by the first, then the second", x.lentAt(8, 1, true), 7);
        x.tap(0, 2, 3, 0);
        Check.due("no way there", x.lent(9), 6);
        int[][] pairs = {{2, 4}, {2, 8}, {3, 8}, {4, 7}, {4, 8}, {7, 8}};
        for (int i = 0; i < 6; i++) {
            Check.due("first of " + i, x.lentAt(9, i, false), pairs[i][0]);
            Check.due("second of " + i, x.lentAt(9, i, true), pairs[i][1]);
        }
        for (int i : new int[] {-1, 6, MOST, LEAST}) {
            Check.due("not so many", x.lentAt(9, i, false), -1);
            Check.due("not so many", x.lentAt(9, i, true), -1);
        }
        x.annul(8);
        Check.due("void", x.lent(10), 2);
        Check.due("void not known", x.lent(9), 6);
        for (int n : new int[] {-1, 11, MOST, LEAST}) {
            Check.due("no such n", x.lent(n), -1);
            Check.due("no such n", x.lentAt(n, 0, false), -1);
        }
        x.shut(0, 3, 3);
        Check.due("shut: no way between a and b", x.lent(11), 4);
        Check.due("shut not known", x.lent(10), 2);
    }

    private static void lentByText() {
        SchoolRides x = new SchoolRides();
        x.child(0, 0, 0, 0);
        x.tap(0, 5, 3, 500);
        x.tap(0, 5, 3, 900);
        x.tap(0, 0, 9, 500);
        x.tap(0, 0, 9, 500);
        Check.due("without a text none", x.lent(5), 0);
        Check.due("read", Check.read(x, "place a;stop s at a;", 4), 0);
        Check.due("on days ahead of the text none", x.lent(5), 0);
        Check.due("read", Check.read(x, "place a;stop s at a;", 3), 0);
        Check.due("no such stop", x.lent(5), 1);
        Check.due("first", x.lentAt(5, 0, false), 1);
        Check.due("second", x.lentAt(5, 0, true), 2);
        x.tap(0, 0, 3, 500);
        x.tap(0, 1, 3, 700);
        Check.due("stop 1 of one stop", x.lent(7), 6);
        Check.due("stop 0 is there, stop 1 not", x.lentAt(7, 5, true), 6);
        Check.due("read", Check.read(x, "", 9), 0);
        Check.due("no stops from day 9 on", x.lent(5), 2);
    }
}
