import java.util.Arrays;

/**
 * Buses for school, as the document SchoolRides tells them: texts that hold from a day on, facts as they
 * were known, the plans of routes and taxis made of both, and the tender, drivers, snow calls and passes.
 * All rows are made in the constructor; no call makes an object.
 */
public final class SchoolRides {
    public static final int NONE = -1;

    private static final int NOT_SO = -2;
    private static final int NO_SHIFT = -100;
    private static final int DAYS = 365;
    private static final int MINUTES_OF_DAY = 1440;
    private static final int PLACES = 12;
    private static final int WAYS = 24;
    private static final int SCHOOLS = 3;
    private static final int STOPS = 6;
    private static final int ROUTES = 10;
    private static final int FAR = 0;
    private static final int SAFE = 1;
    private static final int MINUTES = 2;
    /** Stands for a sum that there is not: above every sum of metres, minutes or prices; seven of it fit an int. */
    private static final int NO_SUM = 1 << 28;

    private final Reader reader;
    private final Tape tape;
    private final View view;
    private final Text[] texts;
    private final Facts facts;
    private final Plan[] plans;
    private final Fleet buses;
    private final Tender tender;
    private final Crew crew;
    private final Snow snow;
    private int textCount;
    private int faultPlace;
    private int lentFirst;
    private int lentSecond;

    public SchoolRides() {
        reader = new Reader();
        tape = reader.tape;
        view = new View();
        texts = view.texts;
        facts = view.facts;
        plans = new Plan[SCHOOLS];
        for (int i = 0; i < plans.length; i++) {
            plans[i] = new Plan();
        }
        buses = new Fleet();
        tender = new Tender();
        crew = new Crew();
        snow = new Snow();
        faultPlace = NONE;
    }

    // ---- the texts ----

    public int feed(int a, int b, int c, int d, int e) {
        if (tape.length + 20 > Tape.BYTES) {
            return NONE;
        }
        tape.append(a);
        tape.append(b);
        tape.append(c);
        tape.append(d);
        tape.append(e);
        return tape.length;
    }

    public int back(int n) {
        if (n < 0 || n > tape.length) {
            return NONE;
        }
        tape.length -= n;
        return tape.length;
    }

    public int read(int from) {
        if (!isDay(from) || textCount >= texts.length) {
            return NOT_SO;
        }
        Text text = texts[textCount];
        reader.readTape(text);
        tape.length = 0;
        if (reader.fault != 0) {
            faultPlace = reader.faultPlace;
            return reader.fault;
        }
        faultPlace = NONE;
        text.from = from;
        textCount++;
        return 0;
    }

    public int place() {
        return faultPlace;
    }

    // ---- the facts ----

    public int child(int home, int school, int grade, int needs) {
        if (!within(home, PLACES) || !within(school, SCHOOLS) || !within(grade, 13) || !within(needs, 4)) {
            return NONE;
        }
        return facts.addChild(home, school, grade, needs);
    }

    public int move(int child, int home, int from, boolean weeks) {
        if (!within(child, facts.children) || !within(home, PLACES) || !isDay(from)) {
            return NONE;
        }
        return facts.add(weeks ? Facts.WEEKS : Facts.MOVE, child, home, from, 0);
    }

    public int shut(int way, int a, int b) {
        if (!within(way, WAYS) || !isDay(a) || !isDay(b) || b < a) {
            return NONE;
        }
        return facts.add(Facts.SHUT, way, a, b, 0);
    }

    public int part(int child, int other) {
        if (!within(child, facts.children) || !within(other, facts.children) || child == other) {
            return NONE;
        }
        return facts.add(Facts.PARTED, child, other, 0, 0);
    }

    public int tap(int child, int stop, int day, int minute) {
        if (!within(child, facts.children) || !within(stop, STOPS) || !isDay(day)
                || !within(minute, MINUTES_OF_DAY)) {
            return NONE;
        }
        return facts.add(Facts.TAP, child, stop, day, minute);
    }

    public int annul(int fact) {
        if (!within(fact, facts.total)) {
            return NONE;
        }
        return facts.addVoid(fact);
    }

    // ---- who may ride, as known by n ----

    public int force(int day) {
        return inForce(day);
    }

    public int home(int child, int day, int n) {
        if (!isDay(day) || !knowsChild(child, n)) {
            return NONE;
        }
        return facts.homeOf(child, day, n);
    }

    public int dist(int a, int b, int what, int day, int n) {
        if (!canMeasure(a, b, what) || !look(day, n)) {
            return NONE;
        }
        int sum = view.sumOf(what, a, b);
        return sum >= NO_SUM ? NOT_SO : sum;
    }

    public int row(int a, int b, int what, int day, int n, int i) {
        if (!canMeasure(a, b, what) || !look(day, n)) {
            return NONE;
        }
        return view.placeInRow(what, a, b, i);
    }

    public int right(int child, int day, int n) {
        if (!look(day, n) || !knowsChild(child, n)) {
            return NONE;
        }
        view.judge(child);
        return view.rightOf[child] == NONE ? NOT_SO : view.rightOf[child];
    }

    public int altered(int day, int other, int n) {
        if (inForce(other) == NONE || !look(day, n)) {
            return NONE;
        }
        int before = rightHolders();
        if (!look(other, n)) {
            return NONE;
        }
        return Integer.bitCount(before ^ rightHolders());
    }

    public int stop(int child, int day, int n) {
        if (!look(day, n) || !knowsChild(child, n)) {
            return NONE;
        }
        view.judge(child);
        return view.stopOf[child] == NONE ? NOT_SO : view.stopOf[child];
    }

    // ---- routes and plans ----

    public int load(int school, int stop, int day, int n) {
        if (!canPlan(school, day, n) || !within(stop, view.text.stops)) {
            return NONE;
        }
        return plans[school].seats[stop];
    }

    public int route(int school, int set, int day, int n) {
        if (!canPlan(school, day, n) || !isStopSet(set)) {
            return NONE;
        }
        int sum = plans[school].minutes[set];
        return sum >= NO_SUM ? NOT_SO : sum;
    }

    public int routeStop(int school, int set, int day, int n, int i) {
        if (!canPlan(school, day, n) || !isStopSet(set)) {
            return NONE;
        }
        return plans[school].stopInRoute(set, i);
    }

    public int good(int school, int set, int day, int n) {
        if (!canPlan(school, day, n) || !isStopSet(set)) {
            return NONE;
        }
        if (plans[school].minutes[set] >= NO_SUM) {
            return NOT_SO;
        }
        return plans[school].isGood[set] ? 1 : 0;
    }

    public int pay(int school, int day, int n) {
        if (!canPlan(school, day, n)) {
            return NONE;
        }
        return plans[school].hasPlan() ? plans[school].leastPay() : NOT_SO;
    }

    public int routes(int school, int day, int n) {
        if (!canPlan(school, day, n)) {
            return NONE;
        }
        return plans[school].hasPlan() ? plans[school].routeTotal : NOT_SO;
    }

    public int routeSet(int school, int day, int n, int k) {
        if (!canPlan(school, day, n) || !within(k, plans[school].routeTotal)) {
            return NONE;
        }
        return plans[school].routeSets[k];
    }

    public int taxis(int school, int day, int n) {
        if (!canPlan(school, day, n)) {
            return NONE;
        }
        return plans[school].hasPlan() ? plans[school].taxiSet : NOT_SO;
    }

    public int fewest(int school, int day, int n) {
        if (!canPlan(school, day, n)) {
            return NONE;
        }
        return plans[school].fewestRoutes();
    }

    public int fleet(int day, int n) {
        if (!look(day, n)) {
            return NONE;
        }
        return gatherFleet() ? buses.busesUnshifted() : NOT_SO;
    }

    public int shifted(int day, int n) {
        if (!look(day, n)) {
            return NONE;
        }
        if (!gatherFleet()) {
            return NOT_SO;
        }
        buses.findShifts();
        return buses.leastBuses;
    }

    public int shift(int school, int day, int n) {
        if (!look(day, n) || !within(school, view.text.schools) || !gatherFleet()) {
            return NO_SHIFT;
        }
        buses.findShifts();
        return buses.bestPuts[school];
    }

    // ---- tender, drivers, snow ----

    public int bid(int firm, int set, int price) {
        if (!within(firm, Tender.FIRMS) || set == 0 || !within(set, 1 << ROUTES) || !within(price, 10000)) {
            return NONE;
        }
        return tender.add(firm, set, price);
    }

    public int award(int k, int without) {
        if (!isRouteCount(k) || !isFirmOrNone(without)) {
            return NONE;
        }
        tender.solve(k, without);
        int sum = tender.sums[(1 << k) - 1];
        return sum >= NO_SUM ? NOT_SO : sum;
    }

    public int awarded(int k, int without, int route) {
        if (!isRouteCount(k) || !isFirmOrNone(without) || !within(route, k)) {
            return NONE;
        }
        tender.solve(k, without);
        return tender.bidOn(route, k);
    }

    public int driver(int set) {
        if (!within(set, 1 << ROUTES)) {
            return NONE;
        }
        return crew.add(set);
    }

    public boolean leave(int driver, boolean is) {
        if (!within(driver, crew.total)) {
            return false;
        }
        crew.setAway(driver, is);
        return true;
    }

    public boolean weigh(int route, int weight) {
        if (!within(route, ROUTES) || !within(weight, 100)) {
            return false;
        }
        crew.setWeight(route, weight);
        return true;
    }

    public int cover(int k) {
        if (!isRouteCount(k)) {
            return NONE;
        }
        crew.solve(k);
        return crew.leastLeft();
    }

    public int drives(int k, int route) {
        if (!isRouteCount(k) || !within(route, k)) {
            return NONE;
        }
        crew.solve(k);
        return crew.driverOf[route] == NONE ? NOT_SO : crew.driverOf[route];
    }

    public int call(int a, int b, int m) {
        if (!within(a, Snow.PEOPLE) || !within(b, Snow.PEOPLE) || a == b || m < 1 || m > 99) {
            return NONE;
        }
        return snow.add(a, b, m);
    }

    public int told(int a, int b) {
        if (!within(a, Snow.PEOPLE) || !within(b, Snow.PEOPLE)) {
            return NONE;
        }
        snow.spread(a);
        return snow.times[b] >= NO_SUM ? NOT_SO : snow.times[b];
    }

    public int soonest() {
        return snow.bestFirst();
    }

    // ---- passes lent, counts ----

    public int lent(int n) {
        if (!isKnowledge(n)) {
            return NONE;
        }
        return findLent(n, NONE);
    }

    public int lentAt(int n, int i, boolean second) {
        if (!isKnowledge(n) || i < 0 || i >= findLent(n, i)) {
            return NONE;
        }
        return second ? lentSecond : lentFirst;
    }

    public int count(int what) {
        switch (what) {
            case 0:
                return textCount;
            case 1:
                return facts.total;
            case 2:
                return facts.children;
            case 3:
                return tender.total;
            case 4:
                return crew.total;
            case 5:
                return snow.total;
            case 6:
                return tape.length;
            default:
                return what < 10 ? NONE : countInText(what / 10, what % 10);
        }
    }

    // ---- what the calls share ----

    private static boolean within(int value, int bound) {
        return value >= 0 && value < bound;
    }

    private static boolean isDay(int day) {
        return within(day, DAYS);
    }

    private static boolean isRouteCount(int k) {
        return k >= 1 && k <= ROUTES;
    }

    private static boolean isFirmOrNone(int firm) {
        return firm == NONE || within(firm, Tender.FIRMS);
    }

    private static boolean canMeasure(int a, int b, int what) {
        return within(a, PLACES) && within(b, PLACES) && within(what, 3);
    }

    private boolean isKnowledge(int n) {
        return n >= 0 && n <= facts.total;
    }

    private boolean knowsChild(int child, int n) {
        return isKnowledge(n) && within(child, facts.childrenKnown(n));
    }

    private int countInText(int what, int number) {
        if (!within(number, textCount)) {
            return NONE;
        }
        switch (what) {
            case 1:
                return texts[number].places;
            case 2:
                return texts[number].ways;
            case 3:
                return texts[number].stops;
            case 4:
                return texts[number].rights;
            default:
                return NONE;
        }
    }

    private int inForce(int day) {
        if (!isDay(day)) {
            return NONE;
        }
        for (int i = textCount - 1; i >= 0; i--) {
            if (texts[i].from <= day) {
                return i;
            }
        }
        return NONE;
    }

    /** Turns the view to a day as known by n; false if nothing can be asked for it. */
    private boolean look(int day, int n) {
        int number = inForce(day);
        if (number == NONE || !isKnowledge(n)) {
            return false;
        }
        view.turn(number, day, n);
        return true;
    }

    /** The children that have a right in the view, as bits. */
    private int rightHolders() {
        view.judgeAll();
        int holders = 0;
        for (int child = 0; child < view.childrenKnown; child++) {
            if (view.rightOf[child] != NONE) {
                holders |= 1 << child;
            }
        }
        return holders;
    }

    private boolean canPlan(int school, int day, int n) {
        if (!look(day, n) || !within(school, view.text.schools)) {
            return false;
        }
        view.judgeAll();
        preparePlan(school);
        return true;
    }

    private boolean isStopSet(int set) {
        return set != 0 && within(set, 1 << view.text.stops);
    }

    /** The view's children must have been judged. */
    private void preparePlan(int school) {
        if (plans[school].stamp != view.stamp) {
            plans[school].make(view, school);
        }
    }

    /** Brings the routes of all plans of the view into the fleet; false if some school has no plan. */
    private boolean gatherFleet() {
        boolean all = true;
        view.judgeAll();
        for (int school = 0; school < view.text.schools; school++) {
            preparePlan(school);
            all = all && plans[school].hasPlan();
        }
        if (all && buses.stamp != view.stamp) {
            buses.clear(view.stamp, view.text);
            for (int school = 0; school < view.text.schools; school++) {
                buses.addRoutes(plans[school], school, view.text);
            }
            buses.measure(view);
        }
        return all;
    }

    /** How many pairs of taps are lent as known by n; keeps the wanted one of them. */
    private int findLent(int n, int wanted) {
        int found = 0;
        for (int i = 0; i < n; i++) {
            for (int j = i + 1; j < n && facts.isKnown(i, Facts.TAP, n); j++) {
                if (facts.areAlikeTaps(i, j, n) && look(facts.third[i], n) && isLent(i, j)) {
                    if (found == wanted) {
                        lentFirst = i;
                        lentSecond = j;
                    }
                    found++;
                }
            }
        }
        return found;
    }

    private boolean isLent(int tap, int other) {
        int stop = facts.second[tap];
        int otherStop = facts.second[other];
        if (stop >= view.text.stops || otherStop >= view.text.stops) {
            return true;
        }
        int between = Math.abs(facts.fourth[tap] - facts.fourth[other]);
        return between < view.sumOf(MINUTES, view.text.stopPlaces[stop], view.text.stopPlaces[otherStop]);
    }

    /** The bytes that were fed, and the tokens that stand in them. */
    private static final class Tape {
        static final int BYTES = 2000;
        static final int TOKENS = 400;

        static final int PLACE = 0;
        static final int WAY = 1;
        static final int SCHOOL = 2;
        static final int STOP = 3;
        static final int RIGHT = 4;
        static final int SEATS = 5;
        static final int RIDE = 6;
        static final int WALK = 7;
        static final int TAXI = 8;
        static final int NURSE = 9;
        static final int BUS = 10;
        static final int AT = 11;
        static final int BAD = 12;
        static final int IF = 13;
        static final int OR = 14;
        static final int AND = 15;
        static final int NOT = 16;
        static final int CLASS = 17;
        static final int DAY = 21;
        static final int NAME = 22;
        static final int INT = 23;
        static final int SEMICOLON = 24;
        static final int PLUS = 25;
        static final int MINUS = 26;
        static final int TIMES = 27;
        static final int EQUAL = 28;
        static final int UNEQUAL = 29;
        static final int LESS = 30;
        static final int AT_MOST = 31;
        static final int OPEN = 32;
        static final int CLOSE = 33;
        static final int END = 34;
        static final int NO_TOKEN = 35;

        private static final int LETTERS = 8;
        private static final int DIGITS = 4;
        /** The words of the kinds 0 to 21 in their order, each filled up to eight signs. */
        private static final String WORDS =
                "place   way     school  stop    right   seats   ride    walk    taxi    nurse   bus     at      bad     if      or      and     not     class   needs   far     safe    day     ";

        final int[] bytes = new int[BYTES];
        int length;
        /** One more than may be: the 401st token is where the reader must stop. */
        final int[] kinds = new int[TOKENS + 1];
        final int[] starts = new int[TOKENS + 1];
        final long[] values = new long[TOKENS + 1];
        private final long[] words = new long[NAME];

        Tape() {
            for (int w = 0; w < words.length; w++) {
                for (int i = 0; i < LETTERS; i++) {
                    char sign = WORDS.charAt(w * LETTERS + i);
                    words[w] = sign == ' ' ? words[w] : withLetter(words[w], sign);
                }
            }
        }

        void append(int four) {
            for (int i = 24; i >= 0 && length < BYTES; i -= 8) {
                bytes[length] = four >> i & 255;
                length++;
            }
        }

        /** Finds the tokens up to the text's end, the first that is none, or the 401st. */
        void scan() {
            int at = 0;
            for (int i = 0; i < kinds.length; i++) {
                at = skipBlanks(at);
                starts[i] = at;
                at = scanToken(i, at);
                if (kinds[i] == END || kinds[i] == NO_TOKEN) {
                    return;
                }
            }
        }

        private int byteAt(int at) {
            return at >= 0 && at < length ? bytes[at] : NONE;
        }

        private int skipBlanks(int from) {
            int at = from;
            while (at < length && isBlank(byteAt(at))) {
                at++;
            }
            return at;
        }

        /** Puts the token at a byte into the rows; answers the byte behind it. */
        private int scanToken(int i, int at) {
            int sign = byteAt(at);
            values[i] = 0;
            if (sign == NONE) {
                kinds[i] = END;
                return at;
            }
            if (isLetter(sign)) {
                return scanWord(i, at);
            }
            if (isDigit(sign)) {
                return scanInt(i, at);
            }
            kinds[i] = kindOfSign(sign, byteAt(at + 1));
            return kinds[i] == EQUAL || kinds[i] == UNEQUAL || kinds[i] == AT_MOST ? at + 2 : at + 1;
        }

        private int scanWord(int i, int from) {
            int at = from;
            while (at < length && isLetter(byteAt(at))) {
                values[i] = withLetter(values[i], byteAt(at));
                at++;
            }
            kinds[i] = at - from > LETTERS ? NO_TOKEN : kindOfWord(values[i]);
            return at;
        }

        private int scanInt(int i, int from) {
            int at = from;
            while (at < length && isDigit(byteAt(at))) {
                values[i] = values[i] * 10 + byteAt(at) - '0';
                at++;
            }
            kinds[i] = at - from > DIGITS ? NO_TOKEN : INT;
            return at;
        }

        private int kindOfWord(long word) {
            for (int w = 0; w < words.length; w++) {
                if (words[w] == word) {
                    return w;
                }
            }
            return NAME;
        }

        private static int kindOfSign(int sign, int next) {
            switch (sign) {
                case ';':
                    return SEMICOLON;
                case '+':
                    return PLUS;
                case '-':
                    return MINUS;
                case '*':
                    return TIMES;
                case '(':
                    return OPEN;
                case ')':
                    return CLOSE;
                case '<':
                    return next == '=' ? AT_MOST : LESS;
                case '=':
                    return next == '=' ? EQUAL : NO_TOKEN;
                case '!':
                    return next == '=' ? UNEQUAL : NO_TOKEN;
                default:
                    return NO_TOKEN;
            }
        }

        /** Up to eight letters, five bits each, make a number of their own. */
        private static long withLetter(long word, int letter) {
            return word * 32 + letter - 'a' + 1;
        }

        private static boolean isBlank(int sign) {
            return sign == 9 || sign == 10 || sign == 13 || sign == 32;
        }

        private static boolean isLetter(int sign) {
            return sign >= 'a' && sign <= 'z';
        }

        private static boolean isDigit(int sign) {
            return sign >= '0' && sign <= '9';
        }
    }

    /** A map and its laws, as one text told them. */
    private static final class Text {
        static final int RIGHTS = 8;
        /** Where the numbers of the laws stand in the row of rules. */
        static final int SEATS = 0;
        static final int RIDE = 1;
        static final int WALK = 2;
        static final int TAXI = 3;
        static final int NURSE = 4;
        static final int BUS = 5;
        static final int BUS_MINUTE = 6;
        static final int VARIABLES = 5;
        private static final int[] UNTOLD = {20, 45, 1000, 5, 30, 100, 2};
        /** Six brackets within one another leave at most eighteen values waiting. */
        private static final int VALUES = 32;

        int from;
        int places;
        int ways;
        final int[] wayStarts = new int[WAYS];
        final int[] wayEnds = new int[WAYS];
        final int[] metres = new int[WAYS];
        final int[] minutes = new int[WAYS];
        int badWays;
        int schools;
        final int[] schoolPlaces = new int[SCHOOLS];
        final int[] bells = new int[SCHOOLS];
        int stops;
        final int[] stopPlaces = new int[STOPS];
        int rights;
        private final int[] rightEnds = new int[RIGHTS];
        /** The conds one behind the other, operators behind their operands: an INT, or ~ of a token's kind. */
        private final int[] code = new int[Tape.TOKENS];
        private int codeLength;
        final int[] rules = new int[UNTOLD.length];
        private final int[] values = new int[VALUES];

        void clear() {
            places = 0;
            ways = 0;
            badWays = 0;
            schools = 0;
            stops = 0;
            rights = 0;
            codeLength = 0;
            System.arraycopy(UNTOLD, 0, rules, 0, UNTOLD.length);
        }

        void addWay(int a, int b, int howFar, int howLong, boolean bad) {
            if (ways >= WAYS) {
                return;
            }
            wayStarts[ways] = a;
            wayEnds[ways] = b;
            metres[ways] = howFar;
            minutes[ways] = howLong;
            badWays |= bad ? 1 << ways : 0;
            ways++;
        }

        void addSchool(int at, int bell) {
            if (schools >= SCHOOLS) {
                return;
            }
            schoolPlaces[schools] = at;
            bells[schools] = bell;
            schools++;
        }

        void addStop(int at) {
            if (stops >= STOPS) {
                return;
            }
            stopPlaces[stops] = at;
            stops++;
        }

        void addCode(int item) {
            if (codeLength < code.length) {
                code[codeLength] = item;
                codeLength++;
            }
        }

        void endRight() {
            if (rights < RIGHTS) {
                rightEnds[rights] = codeLength;
                rights++;
            }
        }

        /** The first right whose cond holds of the variables (class, needs, far, safe, day). */
        int firstRight(int[] variables) {
            int start = 0;
            for (int i = 0; i < rights; i++) {
                if (holds(start, rightEnds[i], variables)) {
                    return i;
                }
                start = rightEnds[i];
            }
            return NONE;
        }

        private boolean holds(int start, int end, int[] variables) {
            int top = 0;
            for (int i = start; i < end; i++) {
                int kind = ~code[i];
                if (kind >= Tape.CLASS && kind <= Tape.DAY || code[i] >= 0) {
                    if (top < values.length) {
                        values[top] = code[i] >= 0 ? code[i] : variables[kind - Tape.CLASS];
                        top++;
                    }
                } else if (kind == Tape.NOT && top >= 1) {
                    values[top - 1] = 1 - values[top - 1];
                } else if (top >= 2) {
                    top--;
                    values[top - 1] = combine(kind, values[top - 1], values[top]);
                }
            }
            return top > 0 && values[0] != 0;
        }

        private static int combine(int kind, int a, int b) {
            switch (kind) {
                case Tape.PLUS:
                    return a + b;
                case Tape.MINUS:
                    return a - b;
                case Tape.TIMES:
                    return a * b;
                case Tape.EQUAL:
                    return a == b ? 1 : 0;
                case Tape.UNEQUAL:
                    return a != b ? 1 : 0;
                case Tape.LESS:
                    return a < b ? 1 : 0;
                case Tape.AT_MOST:
                    return a <= b ? 1 : 0;
                case Tape.AND:
                    return a & b;
                default:
                    return a | b;
            }
        }
    }

    /**
     * Reads the tape's tokens into a text. Faults of syntax and room end the reading where they stand; the
     * first of the others is kept, since one of syntax or room may still come behind it and is told ahead of it.
     */
    private static final class Reader {
        private static final int SYNTAX = 1;
        private static final int NO_ROOM = 2;
        private static final int TWICE = 3;
        private static final int NO_NAME = 4;
        private static final int WRONG = 5;
        private static final int BRACKETS = 6;

        int fault;
        int faultPlace;
        final Tape tape = new Tape();
        private int at;
        private int lateFault;
        private int latePlace;
        private final long[] names = new long[PLACES + SCHOOLS + STOPS];
        private final int[] namePlaces = new int[PLACES + SCHOOLS + STOPS];
        private int nameCount;
        /** The kinds of operators, brackets and nots that wait for what stands behind them. */
        private final int[] waiting = new int[Tape.TOKENS];
        private int waitingCount;
        private boolean operandIsDue;
        private boolean mayNegate;
        private boolean isLeftSide;
        private int depth;

        void readTape(Text text) {
            fault = 0;
            lateFault = 0;
            at = 0;
            nameCount = 0;
            text.clear();
            tape.scan();
            for (int i = 0; i <= Tape.TOKENS && fault == 0 && kindAhead() != Tape.END; i++) {
                readTell(text);
            }
            if (fault == 0) {
                fault = lateFault;
                faultPlace = latePlace;
            }
        }

        private void readTell(Text text) {
            switch (kindAhead()) {
                case Tape.PLACE:
                    readPlace(text);
                    break;
                case Tape.WAY:
                    readWay(text);
                    break;
                case Tape.SCHOOL:
                    readSchool(text);
                    break;
                case Tape.STOP:
                    readStop(text);
                    break;
                case Tape.RIGHT:
                    readRight(text);
                    break;
                case Tape.SEATS:
                case Tape.RIDE:
                case Tape.WALK:
                case Tape.TAXI:
                case Tape.NURSE:
                    readRule(text, kindAhead());
                    break;
                case Tape.BUS:
                    readBus(text);
                    break;
                default:
                    fail(SYNTAX);
            }
        }

        private void readPlace(Text text) {
            needRoom(text.places, PLACES);
            take(Tape.PLACE);
            int name = at;
            take(Tape.NAME);
            take(Tape.SEMICOLON);
            if (fault == 0) {
                tellName(name, text.places);
                text.places++;
            }
        }

        private void readWay(Text text) {
            needRoom(text.ways, WAYS);
            take(Tape.WAY);
            int first = at;
            take(Tape.NAME);
            take(Tape.NAME);
            take(Tape.INT);
            take(Tape.INT);
            boolean bad = kindAhead() == Tape.BAD;
            if (bad) {
                take(Tape.BAD);
            }
            take(Tape.SEMICOLON);
            if (fault != 0) {
                return;
            }
            int a = placeNamed(first);
            int b = placeNamed(first + 1);
            wrongIf(a != NONE && a == b, first + 1);
            int metres = intAt(first + 2);
            wrongIf(metres == 0, first + 2);
            int minutes = intAt(first + 3);
            wrongIf(minutes == 0 || minutes > 99, first + 3);
            text.addWay(a, b, metres, minutes, bad);
        }

        private void readSchool(Text text) {
            needRoom(text.schools, SCHOOLS);
            take(Tape.SCHOOL);
            int name = at;
            take(Tape.NAME);
            take(Tape.AT);
            take(Tape.NAME);
            take(Tape.INT);
            take(Tape.SEMICOLON);
            if (fault != 0) {
                return;
            }
            tellName(name, NONE);
            int where = placeNamed(name + 2);
            int bell = intAt(name + 3);
            wrongIf(bell >= MINUTES_OF_DAY, name + 3);
            text.addSchool(where, bell);
        }

        private void readStop(Text text) {
            needRoom(text.stops, STOPS);
            take(Tape.STOP);
            int name = at;
            take(Tape.NAME);
            take(Tape.AT);
            take(Tape.NAME);
            take(Tape.SEMICOLON);
            if (fault == 0) {
                tellName(name, NONE);
                text.addStop(placeNamed(name + 2));
            }
        }

        private void readRule(Text text, int kind) {
            take(kind);
            int number = at;
            take(Tape.INT);
            take(Tape.SEMICOLON);
            if (fault != 0) {
                return;
            }
            wrongIf(intAt(number) == 0 && (kind == Tape.SEATS || kind == Tape.RIDE), number);
            text.rules[kind - Tape.SEATS] = intAt(number);
        }

        private void readBus(Text text) {
            take(Tape.BUS);
            int number = at;
            take(Tape.INT);
            take(Tape.INT);
            take(Tape.SEMICOLON);
            if (fault == 0) {
                text.rules[Text.BUS] = intAt(number);
                text.rules[Text.BUS_MINUTE] = intAt(number + 1);
            }
        }

        private void readRight(Text text) {
            needRoom(text.rights, Text.RIGHTS);
            take(Tape.RIGHT);
            take(Tape.IF);
            waitingCount = 0;
            depth = 0;
            beginLiteral();
            boolean goesOn = true;
            for (int i = 0; i <= Tape.TOKENS && goesOn && fault == 0; i++) {
                if (operandIsDue) {
                    readOperand(text);
                } else {
                    goesOn = readOperator(text);
                }
            }
            text.endRight();
        }

        private void beginLiteral() {
            operandIsDue = true;
            mayNegate = true;
            isLeftSide = true;
        }

        private void readOperand(Text text) {
            int kind = kindAhead();
            if (kind == Tape.NOT && mayNegate) {
                take(kind);
                await(kind);
                return;
            }
            if (kind == Tape.OPEN) {
                needRoom(depth, BRACKETS);
                take(kind);
                await(kind);
                depth++;
                mayNegate = false;
                return;
            }
            if (kind == Tape.INT) {
                text.addCode(intAt(at));
            } else if (kind >= Tape.CLASS && kind <= Tape.DAY) {
                text.addCode(~kind);
            } else {
                fail(SYNTAX);
            }
            take(kind);
            mayNegate = false;
            operandIsDue = false;
        }

        /** Reads what may stand behind an operand; false if it was the semicolon at the end. */
        private boolean readOperator(Text text) {
            int kind = kindAhead();
            if (kind == Tape.CLOSE && depth > 0) {
                take(kind);
                settle(text, 1);
                waitingCount--;
                depth--;
                return true;
            }
            if (!mayFollowOperand(kind)) {
                fail(SYNTAX);
                return false;
            }
            take(kind);
            settle(text, strengthOf(kind));
            if (kind == Tape.SEMICOLON) {
                return false;
            }
            await(kind);
            operandIsDue = true;
            if (kind == Tape.AND || kind == Tape.OR) {
                beginLiteral();
            } else if (isComparison(kind)) {
                isLeftSide = false;
            }
            return true;
        }

        private boolean mayFollowOperand(int kind) {
            if (kind == Tape.PLUS || kind == Tape.MINUS || kind == Tape.TIMES) {
                return true;
            }
            if (depth > 0) {
                return false;
            }
            return isLeftSide ? isComparison(kind)
                    : kind == Tape.AND || kind == Tape.OR || kind == Tape.SEMICOLON;
        }

        private static boolean isComparison(int kind) {
            return kind >= Tape.EQUAL && kind <= Tape.AT_MOST;
        }

        /** The semicolon is the weakest: all that waits goes ahead of it; a bracket holds all back. */
        private static int strengthOf(int kind) {
            switch (kind) {
                case Tape.OPEN:
                    return 0;
                case Tape.OR:
                case Tape.SEMICOLON:
                    return 1;
                case Tape.AND:
                    return 2;
                case Tape.NOT:
                    return 3;
                case Tape.PLUS:
                case Tape.MINUS:
                    return 5;
                case Tape.TIMES:
                    return 6;
                default:
                    return 4;
            }
        }

        private void await(int kind) {
            if (waitingCount < waiting.length) {
                waiting[waitingCount] = kind;
                waitingCount++;
            }
        }

        /** What waits and binds at least so strongly has its operands now. */
        private void settle(Text text, int strength) {
            while (waitingCount > 0 && strengthOf(waiting[waitingCount - 1]) >= strength) {
                waitingCount--;
                text.addCode(~waiting[waitingCount]);
            }
        }

        private int kindAhead() {
            return tape.kinds[at];
        }

        private int intAt(int token) {
            return (int) tape.values[token];
        }

        /** Goes past a token if it is of that kind; only so the place never goes beyond the 401st. */
        private void take(int kind) {
            if (fault != 0) {
                return;
            }
            if (kindAhead() != kind) {
                fail(SYNTAX);
            } else if (at >= Tape.TOKENS) {
                fail(NO_ROOM);
            } else {
                at++;
            }
        }

        private void needRoom(int there, int most) {
            if (there >= most) {
                fail(NO_ROOM);
            }
        }

        private void fail(int number) {
            if (fault == 0) {
                fault = number;
                faultPlace = tape.starts[at];
            }
        }

        private void wrongIf(boolean wrong, int token) {
            if (wrong) {
                failLate(WRONG, token);
            }
        }

        private void failLate(int number, int token) {
            if (lateFault == 0) {
                lateFault = number;
                latePlace = tape.starts[token];
            }
        }

        private void tellName(int token, int where) {
            if (indexOfName(token) != NONE) {
                failLate(TWICE, token);
            } else if (nameCount < names.length) {
                names[nameCount] = tape.values[token];
                namePlaces[nameCount] = where;
                nameCount++;
            }
        }

        private int placeNamed(int token) {
            int index = indexOfName(token);
            int where = index == NONE ? NONE : namePlaces[index];
            if (where == NONE) {
                failLate(NO_NAME, token);
            }
            return where;
        }

        private int indexOfName(int token) {
            for (int i = 0; i < nameCount; i++) {
                if (names[i] == tape.values[token]) {
                    return i;
                }
            }
            return NONE;
        }
    }

    /** What was told of children, ways and passes, one fact behind the other. */
    private static final class Facts {
        static final int CHILD = 0;
        static final int MOVE = 1;
        static final int WEEKS = 2;
        static final int SHUT = 3;
        static final int PARTED = 4;
        static final int TAP = 5;
        static final int VOID = 6;
        static final int CHILDREN = 20;
        private static final int MOST = 100;

        int total;
        int children;
        final int[] first = new int[MOST];
        final int[] second = new int[MOST];
        final int[] third = new int[MOST];
        final int[] fourth = new int[MOST];
        final int[] childFacts = new int[CHILDREN];
        private final int[] kinds = new int[MOST];
        /** The first void of a fact; without one a number that nobody's knowledge reaches. */
        private final int[] voidedAt = new int[MOST];

        int add(int kind, int a, int b, int c, int d) {
            if (total >= MOST) {
                return NONE;
            }
            kinds[total] = kind;
            first[total] = a;
            second[total] = b;
            third[total] = c;
            fourth[total] = d;
            voidedAt[total] = MOST;
            total++;
            return total - 1;
        }

        int addChild(int home, int school, int grade, int needs) {
            if (children >= CHILDREN) {
                return NONE;
            }
            int fact = add(CHILD, home, school, grade, needs);
            if (fact == NONE) {
                return NONE;
            }
            childFacts[children] = fact;
            children++;
            return children - 1;
        }

        int addVoid(int fact) {
            if (kinds[fact] == CHILD || kinds[fact] == VOID) {
                return NONE;
            }
            int number = add(VOID, fact, 0, 0, 0);
            if (number != NONE) {
                voidedAt[fact] = Math.min(voidedAt[fact], number);
            }
            return number;
        }

        boolean isKnown(int fact, int kind, int n) {
            return kinds[fact] == kind && fact < n && voidedAt[fact] >= n;
        }

        int childrenKnown(int n) {
            int known = 0;
            while (known < children && childFacts[known] < n) {
                known++;
            }
            return known;
        }

        int homeOf(int child, int day, int n) {
            int fact = day / 7 % 2 == 1 ? latestMove(WEEKS, child, day, n) : NONE;
            if (fact == NONE) {
                fact = latestMove(MOVE, child, day, n);
            }
            return fact == NONE ? first[childFacts[child]] : second[fact];
        }

        private int latestMove(int kind, int child, int day, int n) {
            int latest = NONE;
            for (int i = 0; i < n; i++) {
                if (isKnown(i, kind, n) && first[i] == child && third[i] <= day
                        && (latest == NONE || third[i] >= third[latest])) {
                    latest = i;
                }
            }
            return latest;
        }

        /** Whether another fact is a tap too, of the same child on the same day. */
        boolean areAlikeTaps(int tap, int other, int n) {
            return third[tap] == third[other] && first[tap] == first[other] && isKnown(other, TAP, n);
        }
    }

    /**
     * One day as known by n, by the text in force: sums of ways, rights and stops of children. What it found
     * stays until it is turned to another day or knowledge: facts only come behind, so it can't alter.
     */
    private static final class View {
        private static final int NOT_REACHED = 9999;

        final Text[] texts = new Text[3];
        final Facts facts = new Facts();
        Text text;
        int day;
        int n;
        /** Another number whenever the view was turned: by it others see whether what they made still fits. */
        int stamp;
        int childrenKnown;
        final int[] rightOf = new int[Facts.CHILDREN];
        final int[] stopOf = new int[Facts.CHILDREN];
        private int textNumber;
        /** By what is summed: the ways, as bits, that are not shut, and for SAFE not bad. */
        private final int[] usableWays = new int[3];
        /** By what is summed: the places, as bits, whose sums are found. */
        private final int[] summed = new int[3];
        private final int[] sums = new int[3 * PLACES * PLACES];
        private int judged;
        private final int[] variables = new int[Text.VARIABLES];

        View() {
            for (int i = 0; i < texts.length; i++) {
                texts[i] = new Text();
            }
            text = texts[0];
            textNumber = NONE;
        }

        void turn(int number, int newDay, int newN) {
            if (!within(number, texts.length) || number == textNumber && newDay == day && newN == n) {
                return;
            }
            text = texts[number];
            textNumber = number;
            day = newDay;
            n = newN;
            stamp++;
            childrenKnown = facts.childrenKnown(n);
            judged = 0;
            Arrays.fill(summed, 0);
            findUsableWays();
        }

        private void findUsableWays() {
            int open = (1 << text.ways) - 1;
            for (int i = 0; i < n; i++) {
                if (facts.isKnown(i, Facts.SHUT, n) && facts.second[i] <= day && day <= facts.third[i]) {
                    open &= ~(1 << facts.first[i]);
                }
            }
            usableWays[FAR] = open;
            usableWays[SAFE] = open & ~text.badWays;
            usableWays[MINUTES] = open;
        }

        /** FAR, SAFE or MINUTES of two places; NO_SUM without. */
        int sumOf(int what, int a, int b) {
            if (!within(a, text.places) || !within(b, text.places)) {
                return NO_SUM;
            }
            if ((summed[what] >> a & 1) == 0) {
                findSums(what, a);
            }
            return sums[(what * PLACES + a) * PLACES + b];
        }

        /** Lowers the sums along all ways until none can be lowered: at most once for each place. */
        private void findSums(int what, int from) {
            int base = (what * PLACES + from) * PLACES;
            for (int i = 0; i < PLACES; i++) {
                sums[base + i] = i == from ? 0 : NO_SUM;
            }
            summed[what] |= 1 << from;
            int usable = usableWays[what];
            int[] lengths = what == MINUTES ? text.minutes : text.metres;
            boolean lowered = true;
            for (int round = 0; round < PLACES && lowered; round++) {
                lowered = false;
                for (int way = 0; way < text.ways; way++) {
                    int one = base + text.wayStarts[way];
                    int other = base + text.wayEnds[way];
                    if ((usable >> way & 1) == 0) {
                        continue;
                    }
                    if (sums[one] + lengths[way] < sums[other]) {
                        sums[other] = sums[one] + lengths[way];
                        lowered = true;
                    } else if (sums[other] + lengths[way] < sums[one]) {
                        sums[one] = sums[other] + lengths[way];
                        lowered = true;
                    }
                }
            }
        }

        int placeInRow(int what, int a, int b, int i) {
            if (!within(i, PLACES) || sumOf(what, b, a) >= NO_SUM) {
                return NONE;
            }
            int at = a;
            for (int step = 0; step < i && at != NONE; step++) {
                at = at == b ? NONE : nextPlace(what, at, b);
            }
            return at;
        }

        /** The least place behind this one on a row with the least sum. */
        private int nextPlace(int what, int at, int b) {
            int next = NONE;
            int usable = usableWays[what];
            int[] lengths = what == MINUTES ? text.minutes : text.metres;
            for (int way = 0; way < text.ways; way++) {
                int other = otherEnd(way, at);
                if (other != NONE && (usable >> way & 1) != 0 && (next == NONE || other < next)
                        && sumOf(what, b, other) + lengths[way] == sumOf(what, b, at)) {
                    next = other;
                }
            }
            return next;
        }

        private int otherEnd(int way, int at) {
            if (text.wayStarts[way] == at) {
                return text.wayEnds[way];
            }
            return text.wayEnds[way] == at ? text.wayStarts[way] : NONE;
        }

        void judgeAll() {
            for (int child = 0; child < childrenKnown; child++) {
                judge(child);
            }
        }

        /** Finds the first right of a child, and its stop if it is a rider of a school that there is. */
        void judge(int child) {
            if ((judged >> child & 1) != 0) {
                return;
            }
            judged |= 1 << child;
            int fact = facts.childFacts[child];
            int home = facts.homeOf(child, day, n);
            int school = facts.second[fact];
            int schoolPlace = school < text.schools ? text.schoolPlaces[school] : NONE;
            variables[0] = facts.third[fact];
            variables[1] = facts.fourth[fact];
            variables[2] = orNotReached(sumOf(FAR, schoolPlace, home));
            variables[3] = orNotReached(sumOf(SAFE, schoolPlace, home));
            variables[4] = day;
            rightOf[child] = text.firstRight(variables);
            stopOf[child] = rightOf[child] == NONE || schoolPlace == NONE ? NONE : nearestStop(home);
        }

        private static int orNotReached(int sum) {
            return sum >= NO_SUM ? NOT_REACHED : sum;
        }

        private int nearestStop(int home) {
            int nearest = NONE;
            int least = text.rules[Text.WALK] + 1;
            for (int stop = 0; stop < text.stops; stop++) {
                int sum = sumOf(SAFE, text.stopPlaces[stop], home);
                if (sum < least) {
                    least = sum;
                    nearest = stop;
                }
            }
            return nearest;
        }
    }

    /** The riders, routes and plan of one school in a view. */
    private static final class Plan {
        private static final int SETS = 1 << STOPS;
        private static final int NO_PAY = Integer.MAX_VALUE;
        private static final int NO_ROUTES = 99;

        int stamp;
        final int[] seats = new int[STOPS];
        /** By the set of stops: the minutes of its route; NO_SUM if it can't be driven or lacks riders. */
        final int[] minutes = new int[SETS];
        final boolean[] isGood = new boolean[SETS];
        int routeTotal;
        final int[] routeSets = new int[STOPS];
        int taxiSet;
        private final int[] riders = new int[STOPS];
        private int served;
        private int nurseStops;
        /** By stop: the stops, as bits, that have a rider parted from one of its own (told at one of the two). */
        private final int[] apart = new int[STOPS];
        private final int[] toSchool = new int[STOPS];
        private final int[] legs = new int[STOPS * STOPS];
        /** By set and first stop: the least minutes through all of the set to the school. */
        private final int[] sums = new int[SETS * STOPS];
        private final int[] pays = new int[SETS];
        private final int[] counts = new int[SETS];
        /** By the set that is left: what its least stop does: 0 by taxi, else the set of its route. */
        private final int[] choices = new int[SETS];
        private final int[] fews = new int[SETS];

        void make(View view, int school) {
            stamp = view.stamp;
            gatherRiders(view, school);
            gatherParted(view, school);
            measure(view, school);
            for (int set = 1; set < SETS; set++) {
                minutes[set] = NO_SUM;
                isGood[set] = false;
                if ((set & ~served) == 0) {
                    findRoute(set);
                    isGood[set] = canBeGood(set, view.text.rules);
                }
            }
            for (int set = 1; set < SETS; set++) {
                if ((set & ~served) == 0) {
                    choose(set, view.text.rules);
                }
            }
            listRoutes();
        }

        private void gatherRiders(View view, int school) {
            Arrays.fill(seats, 0);
            Arrays.fill(riders, 0);
            served = 0;
            nurseStops = 0;
            for (int child = 0; child < view.childrenKnown; child++) {
                int fact = view.facts.childFacts[child];
                int stop = view.stopOf[child];
                if (stop != NONE && view.facts.second[fact] == school) {
                    int needs = view.facts.fourth[fact];
                    riders[stop]++;
                    seats[stop] += (needs & 2) != 0 ? 2 : 1;
                    served |= 1 << stop;
                    nurseStops |= (needs & 1) << stop;
                }
            }
        }

        private void gatherParted(View view, int school) {
            Arrays.fill(apart, 0);
            for (int i = 0; i < view.n; i++) {
                if (view.facts.isKnown(i, Facts.PARTED, view.n)) {
                    int one = riderStop(view, school, view.facts.first[i]);
                    int other = riderStop(view, school, view.facts.second[i]);
                    if (one != NONE && other != NONE) {
                        apart[one] |= 1 << other;
                    }
                }
            }
        }

        private static int riderStop(View view, int school, int child) {
            return view.facts.second[view.facts.childFacts[child]] == school ? view.stopOf[child] : NONE;
        }

        private void measure(View view, int school) {
            int schoolPlace = view.text.schoolPlaces[school];
            int[] places = view.text.stopPlaces;
            for (int i = 0; i < view.text.stops; i++) {
                if ((served >> i & 1) != 0) {
                    toSchool[i] = view.sumOf(MINUTES, places[i], schoolPlace);
                    for (int j = 0; j < view.text.stops; j++) {
                        legs[i * STOPS + j] = view.sumOf(MINUTES, places[i], places[j]);
                    }
                }
            }
        }

        /** Sets come in rising order, so all sets within this one have their sums already. */
        private void findRoute(int set) {
            for (int i = 0; i < STOPS; i++) {
                if ((set >> i & 1) != 0) {
                    int sum = leastBehind(set ^ 1 << i, i);
                    sums[set * STOPS + i] = sum;
                    minutes[set] = Math.min(minutes[set], sum);
                }
            }
        }

        private int leastBehind(int rest, int stop) {
            if (rest == 0) {
                return toSchool[stop];
            }
            int least = NO_SUM;
            for (int j = 0; j < STOPS; j++) {
                if ((rest >> j & 1) != 0) {
                    least = Math.min(least, legs[stop * STOPS + j] + sums[rest * STOPS + j]);
                }
            }
            return least;
        }

        int stopInRoute(int set, int i) {
            if (!within(set, SETS) || !within(i, STOPS) || set == 0 || minutes[set] >= NO_SUM) {
                return NONE;
            }
            int rest = set;
            int due = minutes[set];
            int stop = NONE;
            for (int step = 0; step <= i; step++) {
                stop = firstWith(rest, stop, due);
                if (stop == NONE) {
                    return NONE;
                }
                due = sums[rest * STOPS + stop];
                rest ^= 1 << stop;
            }
            return stop;
        }

        /** The least stop of the rest with which, behind the one ahead, the sum that is due comes out. */
        private int firstWith(int rest, int ahead, int due) {
            for (int j = 0; j < STOPS; j++) {
                if ((rest >> j & 1) != 0) {
                    int leg = ahead == NONE ? 0 : legs[ahead * STOPS + j];
                    if (leg + sums[rest * STOPS + j] == due) {
                        return j;
                    }
                }
            }
            return NONE;
        }

        private boolean canBeGood(int set, int[] rules) {
            int load = 0;
            for (int i = 0; i < STOPS; i++) {
                if ((set >> i & 1) != 0) {
                    load += seats[i];
                    if ((apart[i] & set) != 0) {
                        return false;
                    }
                }
            }
            return minutes[set] <= rules[Text.RIDE] && load <= rules[Text.SEATS];
        }

        private int payOf(int set, int[] rules) {
            int nurse = (set & nurseStops) != 0 ? rules[Text.NURSE] : 0;
            return rules[Text.BUS] + rules[Text.BUS_MINUTE] * minutes[set] + nurse;
        }

        /** What the least stop of a set that is left does best: by taxi, then the sets in rising order. */
        private void choose(int set, int[] rules) {
            pays[set] = NO_PAY;
            counts[set] = NO_ROUTES;
            fews[set] = NO_ROUTES;
            int bit = set & -set;
            int stop = Integer.bitCount(bit - 1);
            if (toSchool[stop] < NO_SUM) {
                weighTaxi(set, bit, rules[Text.TAXI] * riders[stop] * toSchool[stop]);
            }
            int others = set ^ bit;
            int more = 0;
            for (int i = 0; i < SETS; i++) {
                if (isGood[bit | more]) {
                    weighRoute(set, bit | more, payOf(bit | more, rules));
                }
                if (more == others) {
                    return;
                }
                more = more - others & others;
            }
        }

        private void weighTaxi(int set, int bit, int cost) {
            int rest = set ^ bit;
            if (pays[rest] != NO_PAY) {
                pays[set] = cost + pays[rest];
                counts[set] = counts[rest];
                choices[set] = 0;
            }
        }

        private void weighRoute(int set, int stops, int cost) {
            int rest = set ^ stops;
            fews[set] = Math.min(fews[set], 1 + fews[rest]);
            if (pays[rest] == NO_PAY) {
                return;
            }
            int sum = cost + pays[rest];
            int count = 1 + counts[rest];
            if (sum < pays[set] || sum == pays[set] && count < counts[set]) {
                pays[set] = sum;
                counts[set] = count;
                choices[set] = stops;
            }
        }

        private void listRoutes() {
            routeTotal = 0;
            taxiSet = 0;
            if (!hasPlan()) {
                return;
            }
            int left = served;
            for (int i = 0; i < STOPS && left != 0; i++) {
                int set = choices[left];
                if (set == 0) {
                    taxiSet |= left & -left;
                    left &= left - 1;
                } else {
                    routeSets[routeTotal] = set;
                    routeTotal++;
                    left ^= set;
                }
            }
        }

        boolean hasPlan() {
            return pays[served] != NO_PAY;
        }

        int leastPay() {
            return pays[served];
        }

        int fewestRoutes() {
            return fews[served] >= NO_ROUTES ? NOT_SO : fews[served];
        }
    }

    /** The buses that do the routes of all plans one behind the other. */
    private static final class Fleet {
        private static final int MOST = SCHOOLS * STOPS;
        /** A bell is put by up to two steps either way, and so by up to four against another. */
        private static final int STEP = 10;
        private static final int FARTHEST = 2;
        private static final int PUTS = 2 * FARTHEST + 1;
        private static final int DIFFERENCES = 4 * FARTHEST + 1;

        int stamp;
        int leastBuses;
        final int[] bestPuts = new int[SCHOOLS];
        private int total;
        private int schools;
        private boolean shiftsAreFound;
        private final int[] schoolOf = new int[MOST];
        private final int[] firstPlaces = new int[MOST];
        private final int[] spans = new int[MOST];
        private final int[] schoolPlaces = new int[SCHOOLS];
        private final int[] bells = new int[SCHOOLS];
        /** How many steps each bell is put. */
        private final int[] puts = new int[SCHOOLS];
        /** By x, a school and the steps its bell is put against x's: its routes, as bits, that can follow x. */
        private final int[] followersByPut = new int[MOST * SCHOOLS * DIFFERENCES];
        private final int[] followers = new int[MOST];
        private final int[] nextOf = new int[MOST];
        private final int[] aheadOf = new int[MOST];
        private final int[] reachedFrom = new int[MOST];
        private final int[] queue = new int[MOST + 1];

        void clear(int newStamp, Text text) {
            stamp = newStamp;
            total = 0;
            schools = text.schools;
            shiftsAreFound = false;
            System.arraycopy(text.schoolPlaces, 0, schoolPlaces, 0, SCHOOLS);
            System.arraycopy(text.bells, 0, bells, 0, SCHOOLS);
        }

        void addRoutes(Plan plan, int school, Text text) {
            for (int k = 0; k < plan.routeTotal && total < MOST; k++) {
                int set = plan.routeSets[k];
                int first = plan.stopInRoute(set, 0);
                schoolOf[total] = school;
                firstPlaces[total] = first == NONE ? NONE : text.stopPlaces[first];
                spans[total] = plan.minutes[set];
                total++;
            }
        }

        void measure(View view) {
            Arrays.fill(followersByPut, 0);
            for (int x = 0; x < total; x++) {
                for (int y = 0; y < total; y++) {
                    int drive = view.sumOf(MINUTES, schoolPlaces[schoolOf[x]], firstPlaces[y]);
                    if (drive < NO_SUM) {
                        noteFollower(x, y, bells[schoolOf[y]] - spans[y] - bells[schoolOf[x]] - drive);
                    }
                }
            }
        }

        /** The time left is what a bus has between x and y while no bell is put. */
        private void noteFollower(int x, int y, int timeLeft) {
            int base = (x * SCHOOLS + schoolOf[y]) * DIFFERENCES;
            for (int i = 0; i < DIFFERENCES; i++) {
                int put = (i - 2 * FARTHEST) * STEP;
                boolean alikeBells = bells[schoolOf[x]] == bells[schoolOf[y]] + put;
                if (timeLeft + put >= 0 && (x < y || !alikeBells)) {
                    followersByPut[base + i] |= 1 << y;
                }
            }
        }

        int busesUnshifted() {
            Arrays.fill(puts, 0);
            return fewestBuses();
        }

        /** Tries all shifts, school 0's slowest, so that the first of alike ones comes first. */
        void findShifts() {
            if (shiftsAreFound) {
                return;
            }
            shiftsAreFound = true;
            leastBuses = MOST + 1;
            int leastSum = 0;
            for (int i = 0; i < PUTS * PUTS * PUTS; i++) {
                putBells(i);
                int sum = Math.abs(puts[0]) + Math.abs(puts[1]) + Math.abs(puts[2]);
                if (putsExistingAlone() && (sum < leastSum || leastBuses > 1)) {
                    int needed = fewestBuses();
                    if (needed < leastBuses || needed == leastBuses && sum < leastSum) {
                        leastBuses = needed;
                        leastSum = sum;
                        keepPuts();
                    }
                }
            }
        }

        private void putBells(int i) {
            puts[0] = i / (PUTS * PUTS) - FARTHEST;
            puts[1] = i / PUTS % PUTS - FARTHEST;
            puts[2] = i % PUTS - FARTHEST;
        }

        private void keepPuts() {
            for (int school = 0; school < SCHOOLS; school++) {
                bestPuts[school] = puts[school] * STEP;
            }
        }

        private boolean putsExistingAlone() {
            for (int school = schools; school < SCHOOLS; school++) {
                if (puts[school] != 0) {
                    return false;
                }
            }
            return true;
        }

        /** Each route that follows another on one bus spares a bus: as many such pairs as can be. */
        private int fewestBuses() {
            for (int x = 0; x < total; x++) {
                followers[x] = followersOf(x);
                nextOf[x] = NONE;
                aheadOf[x] = NONE;
            }
            int needed = total;
            for (int x = 0; x < total; x++) {
                if (findFollower(x)) {
                    needed--;
                }
            }
            return needed;
        }

        private int followersOf(int x) {
            int all = 0;
            for (int school = 0; school < schools; school++) {
                int steps = puts[school] - puts[schoolOf[x]] + 2 * FARTHEST;
                all |= followersByPut[(x * SCHOOLS + school) * DIFFERENCES + steps];
            }
            return all;
        }

        /** Seeks a route that x can be done ahead of, where others may change theirs to make it free. */
        private boolean findFollower(int x) {
            int reached = 0;
            int tail = 1;
            queue[0] = x;
            for (int head = 0; head < tail && head < queue.length; head++) {
                int open = followers[queue[head]] & ~reached;
                reached |= open;
                for (int i = 0; i < MOST && open != 0; i++) {
                    int y = Integer.bitCount((open & -open) - 1);
                    open &= open - 1;
                    reachedFrom[y] = queue[head];
                    if (aheadOf[y] == NONE) {
                        joinBack(y);
                        return true;
                    }
                    if (tail < queue.length) {
                        queue[tail] = aheadOf[y];
                        tail++;
                    }
                }
            }
            return false;
        }

        private void joinBack(int last) {
            int y = last;
            for (int i = 0; i < MOST && y != NONE; i++) {
                int x = reachedFrom[y];
                int freed = nextOf[x];
                nextOf[x] = y;
                aheadOf[y] = x;
                y = freed;
            }
        }
    }

    /** Bids of firms on sets of routes. */
    private static final class Tender {
        static final int FIRMS = 6;
        private static final int MOST = 20;
        private static final int SETS = 1 << ROUTES;

        int total;
        /** By the set of routes left: the least sum of prices; NO_SUM without. */
        final int[] sums = new int[SETS];
        private final int[] firms = new int[MOST];
        private final int[] sets = new int[MOST];
        private final int[] prices = new int[MOST];
        private final int[] choices = new int[SETS];
        private final boolean[] isReached = new boolean[SETS];
        private int solvedRoutes;
        private int solvedWithout;

        int add(int firm, int set, int price) {
            if (total >= MOST) {
                return NONE;
            }
            firms[total] = firm;
            sets[total] = set;
            prices[total] = price;
            total++;
            solvedRoutes = 0;
            return total - 1;
        }

        void solve(int k, int without) {
            if (k == solvedRoutes && without == solvedWithout) {
                return;
            }
            solvedRoutes = k;
            solvedWithout = without;
            int all = (1 << k) - 1;
            markReached(all, without);
            sums[0] = 0;
            for (int left = 1; left <= all; left++) {
                if (isReached[left]) {
                    choose(left, without);
                }
            }
        }

        /** Only sets that bids on the least routes can leave over need to be looked at. */
        private void markReached(int all, int without) {
            for (int left = 0; left < all; left++) {
                isReached[left] = false;
            }
            isReached[all] = true;
            for (int left = all; left > 0; left--) {
                for (int i = 0; i < total && isReached[left]; i++) {
                    if (fits(i, left, without)) {
                        isReached[left ^ sets[i]] = true;
                    }
                }
            }
        }

        private boolean fits(int i, int left, int without) {
            return (sets[i] & left & -left) != 0 && (sets[i] & ~left) == 0 && firms[i] != without;
        }

        private void choose(int left, int without) {
            sums[left] = NO_SUM;
            choices[left] = NONE;
            for (int i = 0; i < total; i++) {
                if (fits(i, left, without) && prices[i] + sums[left ^ sets[i]] < sums[left]) {
                    sums[left] = prices[i] + sums[left ^ sets[i]];
                    choices[left] = i;
                }
            }
        }

        int bidOn(int route, int k) {
            int left = (1 << k) - 1;
            for (int i = 0; i < k && left != 0; i++) {
                int chosen = choices[left];
                if (chosen == NONE || (sets[chosen] >> route & 1) != 0) {
                    return chosen;
                }
                left ^= sets[chosen];
            }
            return NONE;
        }
    }

    /** Drivers, and the routes that they can drive. */
    private static final class Crew {
        private static final int MOST = 8;
        private static final int SETS = 1 << MOST;

        int total;
        final int[] driverOf = new int[ROUTES];
        private final int[] sets = new int[MOST];
        private final boolean[] isAway = new boolean[MOST];
        private final int[] weights = new int[ROUTES];
        /** By route and the drivers taken ahead of it: the least weight left from it on. */
        private final int[] left = new int[(ROUTES + 1) * SETS];
        private int solvedRoutes;

        Crew() {
            Arrays.fill(weights, 1);
        }

        int add(int set) {
            if (total >= MOST) {
                return NONE;
            }
            sets[total] = set;
            total++;
            solvedRoutes = 0;
            return total - 1;
        }

        void setAway(int driver, boolean away) {
            isAway[driver] = away;
            solvedRoutes = 0;
        }

        void setWeight(int route, int weight) {
            weights[route] = weight;
            solvedRoutes = 0;
        }

        void solve(int k) {
            if (k == solvedRoutes) {
                return;
            }
            solvedRoutes = k;
            int takenSets = 1 << total;
            for (int taken = 0; taken < takenSets; taken++) {
                left[k * SETS + taken] = 0;
            }
            for (int route = k - 1; route >= 0; route--) {
                for (int taken = 0; taken < takenSets; taken++) {
                    if (Integer.bitCount(taken) <= route) {
                        left[route * SETS + taken] = leastFrom(route, taken);
                    }
                }
            }
            listDrivers(k);
        }

        private boolean canDrive(int driver, int route, int taken) {
            return !isAway[driver] && (sets[driver] >> route & 1) != 0 && (taken >> driver & 1) == 0;
        }

        private int leastFrom(int route, int taken) {
            int next = (route + 1) * SETS;
            int least = weights[route] + left[next + taken];
            for (int driver = 0; driver < total; driver++) {
                if (canDrive(driver, route, taken)) {
                    least = Math.min(least, left[next + (taken | 1 << driver)]);
                }
            }
            return least;
        }

        private void listDrivers(int k) {
            int taken = 0;
            for (int route = 0; route < k; route++) {
                driverOf[route] = firstDriver(route, taken);
                if (driverOf[route] != NONE) {
                    taken |= 1 << driverOf[route];
                }
            }
        }

        private int firstDriver(int route, int taken) {
            for (int driver = 0; driver < total; driver++) {
                if (canDrive(driver, route, taken)
                        && left[(route + 1) * SETS + (taken | 1 << driver)] == left[route * SETS + taken]) {
                    return driver;
                }
            }
            return NONE;
        }

        int leastLeft() {
            return left[0];
        }
    }

    /** Who calls whom when there is snow. */
    private static final class Snow {
        static final int PEOPLE = 12;
        private static final int MOST = 30;

        int total;
        /** When each is told, the first one being the one of the latest spread; NO_SUM: never. */
        final int[] times = new int[PEOPLE];
        private final int[] callers = new int[MOST];
        private final int[] called = new int[MOST];
        /** How long after its caller was told a call ends. */
        private final int[] delays = new int[MOST];
        private final int[] listMinutes = new int[PEOPLE];

        int add(int a, int b, int m) {
            if (total >= MOST) {
                return NONE;
            }
            listMinutes[a] += m;
            callers[total] = a;
            called[total] = b;
            delays[total] = listMinutes[a];
            total++;
            return total;
        }

        void spread(int first) {
            Arrays.fill(times, NO_SUM);
            times[first] = 0;
            boolean altered = true;
            for (int round = 0; round < PEOPLE && altered; round++) {
                altered = false;
                for (int i = 0; i < total; i++) {
                    int end = times[callers[i]] + delays[i];
                    if (end < times[called[i]]) {
                        times[called[i]] = end;
                        altered = true;
                    }
                }
            }
        }

        int bestFirst() {
            int best = NONE;
            int mostTold = 0;
            int leastEnd = 0;
            for (int first = 0; first < PEOPLE; first++) {
                spread(first);
                int toldCount = 0;
                int end = 0;
                for (int i = 0; i < PEOPLE; i++) {
                    if (times[i] < NO_SUM) {
                        toldCount++;
                        end = Math.max(end, times[i]);
                    }
                }
                if (toldCount > mostTold || toldCount == mostTold && end < leastEnd) {
                    best = first;
                    mostTold = toldCount;
                    leastEnd = end;
                }
            }
            return best;
        }
    }
}
