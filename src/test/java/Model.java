import java.util.ArrayList;
import java.util.Arrays;
import java.util.Collections;
import java.util.HashMap;
import java.util.HashSet;
import java.util.List;
import java.util.Map;
import java.util.PriorityQueue;
import java.util.Set;

/**
 * The document told a second time, by trying everything out, to hold the class against. It may use the
 * Java library, exceptions and recursion; it is slow and has nothing in common with the class.
 */
final class Model {
    static final int NONE = -1;
    static final int INF = 1_000_000_000;
    static final Set<String> WORDS = new HashSet<>(Arrays.asList("place", "way", "bad", "school", "at", "stop",
            "right", "if", "seats", "ride", "walk", "taxi", "nurse", "bus", "or", "and", "not", "class", "needs",
            "far", "safe", "day"));

    record Token(char kind, String text, int place) { }

    interface Value { int of(int[] vars); }

    interface Cond { boolean of(int[] vars); }

    record Way(int a, int b, int metres, int minutes, boolean bad) { }

    static final class Law {
        int from;
        List<String> places = new ArrayList<>();
        List<Way> ways = new ArrayList<>();
        List<int[]> schools = new ArrayList<>();
        List<Integer> stops = new ArrayList<>();
        List<Cond> rights = new ArrayList<>();
        Map<String, Integer> rules = new HashMap<>(Map.of("seats", 20, "ride", 45, "walk", 1000, "taxi", 5,
                "nurse", 30, "bus", 100, "bus2", 2));
        Set<String> names = new HashSet<>();
    }

    static final class Fault extends RuntimeException {
        final int number;
        final int place;

        Fault(int number, int place) {
            this.number = number;
            this.place = place;
        }
    }

    static final class Parser {
        final byte[] tape;
        final List<Token> tokens = new ArrayList<>();
        final List<int[]> late = new ArrayList<>();
        final Law law = new Law();
        int at;
        int rights;
        int ways;
        int schools;
        int stops;
        int places;

        Parser(byte[] tape) {
            this.tape = tape;
            cut();
        }

        void cut() {
            String s = new String(tape, java.nio.charset.StandardCharsets.ISO_8859_1);
            int i = 0;
            while (i < s.length()) {
                char c = s.charAt(i);
                if ("\t\n\r ".indexOf(c) >= 0) {
                    i++;
                    continue;
                }
                java.util.regex.Matcher m = java.util.regex.Pattern
                        .compile("[a-z]+|[0-9]+|==|!=|<=|[;+*()<-]").matcher(s).region(i, s.length());
                if (!m.lookingAt()) {
                    tokens.add(new Token('?', "", i));
                    return;
                }
                String t = m.group();
                char kind = Character.isLetter(c) ? (WORDS.contains(t) ? 'w' : 'n') : Character.isDigit(c) ? 'i' : 's';
                if ((kind == 'n' && t.length() > 8) || (kind == 'i' && t.length() > 4)) {
                    kind = '?';
                }
                tokens.add(new Token(kind, t, i));
                if (kind == '?') {
                    return;
                }
                i = m.end();
            }
            tokens.add(new Token('e', "", s.length()));
        }

        Token peek() {
            return tokens.get(at);
        }

        boolean ahead(String word) {
            return (peek().kind == 'w' || peek().kind == 's') && peek().text.equals(word);
        }

        Fault syntax() {
            return new Fault(1, peek().place);
        }

        Token next() {
            if (at == 400) {
                throw new Fault(2, peek().place);
            }
            return tokens.get(at++);
        }

        void word(String w) {
            if (!ahead(w)) {
                throw syntax();
            }
            next();
        }

        Token kind(char k) {
            if (peek().kind != k) {
                throw syntax();
            }
            return next();
        }

        void room(int have, int most) {
            if (have >= most) {
                throw new Fault(2, peek().place);
            }
        }

        void late(int number, Token t) {
            late.add(new int[] {t.place, number});
        }

        Law parse() {
            while (peek().kind != 'e') {
                tell();
            }
            if (!late.isEmpty()) {
                late.sort((x, y) -> x[0] != y[0] ? x[0] - y[0] : x[1] - y[1]);
                throw new Fault(late.get(0)[1], late.get(0)[0]);
            }
            return law;
        }

        void told(Token t) {
            if (!law.names.add(t.text)) {
                late(3, t);
            }
        }

        int where(Token t) {
            int p = law.places.indexOf(t.text);
            if (p < 0) {
                late(4, t);
            }
            return p;
        }

        int number(Token t, int least, int most) {
            int v = Integer.parseInt(t.text);
            if (v < least || v > most) {
                late(5, t);
            }
            return v;
        }

        void tell() {
            if (peek().kind != 'w') {
                throw syntax();
            }
            switch (peek().text) {
                case "place": {
                    room(places++, 12);
                    next();
                    Token n = kind('n');
                    word(";");
                    told(n);
                    law.places.add(law.places.contains(n.text) ? "" : n.text);
                    break;
                }
                case "way": {
                    room(ways++, 24);
                    next();
                    Token a = kind('n');
                    Token b = kind('n');
                    Token m = kind('i');
                    Token t = kind('i');
                    boolean bad = ahead("bad");
                    if (bad) {
                        next();
                    }
                    word(";");
                    int p = where(a);
                    int q = where(b);
                    if (a.text.equals(b.text) && q >= 0) {
                        late(5, b);
                    }
                    law.ways.add(new Way(p, q, number(m, 1, 9999), number(t, 1, 99), bad));
                    break;
                }
                case "school": {
                    room(schools++, 3);
                    next();
                    Token n = kind('n');
                    word("at");
                    Token p = kind('n');
                    Token b = kind('i');
                    word(";");
                    told(n);
                    law.schools.add(new int[] {where(p), number(b, 0, 1439)});
                    break;
                }
                case "stop": {
                    room(stops++, 6);
                    next();
                    Token n = kind('n');
                    word("at");
                    Token p = kind('n');
                    word(";");
                    told(n);
                    law.stops.add(where(p));
                    break;
                }
                case "right": {
                    room(rights++, 8);
                    next();
                    word("if");
                    Cond c = cond();
                    word(";");
                    law.rights.add(c);
                    break;
                }
                case "seats":
                case "ride":
                case "walk":
                case "taxi":
                case "nurse": {
                    Token w = next();
                    Token n = kind('i');
                    word(";");
                    boolean positive = w.text.equals("seats") || w.text.equals("ride");
                    law.rules.put(w.text, number(n, positive ? 1 : 0, 9999));
                    break;
                }
                case "bus": {
                    next();
                    Token a = kind('i');
                    Token b = kind('i');
                    word(";");
                    law.rules.put("bus", number(a, 0, 9999));
                    law.rules.put("bus2", number(b, 0, 9999));
                    break;
                }
                default:
                    throw syntax();
            }
        }

        /** A cond is only known to have ended when no 'or' stands ahead: what else may not go on is told at ';'. */
        Cond cond() {
            Cond c = all();
            while (ahead("or")) {
                next();
                Cond a = c;
                Cond b = all();
                c = v -> a.of(v) || b.of(v);
            }
            return c;
        }

        Cond all() {
            Cond c = lit();
            while (ahead("and")) {
                next();
                Cond a = c;
                Cond b = lit();
                c = v -> a.of(v) && b.of(v);
            }
            return c;
        }

        Cond lit() {
            if (ahead("not")) {
                next();
                Cond c = lit();
                return v -> !c.of(v);
            }
            Value a = sum(0);
            if (peek().kind != 's' || !List.of("==", "!=", "<", "<=").contains(peek().text)) {
                throw syntax();
            }
            String op = next().text;
            Value b = sum(0);
            switch (op) {
                case "==":
                    return v -> a.of(v) == b.of(v);
                case "!=":
                    return v -> a.of(v) != b.of(v);
                case "<":
                    return v -> a.of(v) < b.of(v);
                default:
                    return v -> a.of(v) <= b.of(v);
            }
        }

        Value sum(int depth) {
            Value s = product(depth);
            while (ahead("+") || ahead("-")) {
                boolean plus = next().text.equals("+");
                Value a = s;
                Value b = product(depth);
                s = plus ? v -> a.of(v) + b.of(v) : v -> a.of(v) - b.of(v);
            }
            return s;
        }

        Value product(int depth) {
            Value s = unit(depth);
            while (ahead("*")) {
                next();
                Value a = s;
                Value b = unit(depth);
                s = v -> a.of(v) * b.of(v);
            }
            return s;
        }

        Value unit(int depth) {
            if (peek().kind == 'i') {
                int n = Integer.parseInt(next().text);
                return v -> n;
            }
            if (ahead("(")) {
                room(depth, 6);
                next();
                Value s = sum(depth + 1);
                word(")");
                return s;
            }
            int var = peek().kind == 'w' ? List.of("class", "needs", "far", "safe", "day").indexOf(peek().text) : -1;
            if (var < 0) {
                throw syntax();
            }
            next();
            return v -> v[var];
        }
    }

    enum Kind { CHILD, MOVE, WEEKS, SHUT, PARTED, TAP, VOID }

    record Fact(Kind kind, int a, int b, int c, int d) { }

    record Bid(int firm, int set, int price) { }

    record Call(int a, int b, int m) { }

    private byte[] tape = new byte[0];
    private final List<Law> laws = new ArrayList<>();
    private final List<Fact> facts = new ArrayList<>();
    private final List<Bid> bids = new ArrayList<>();
    private final List<Integer> drivers = new ArrayList<>();
    private final Set<Integer> away = new HashSet<>();
    private final int[] weights = new int[10];
    private final List<Call> calls = new ArrayList<>();
    private int place = NONE;

    Model() {
        Arrays.fill(weights, 1);
    }

    static boolean in(int v, int low, int high) {
        return v >= low && v <= high;
    }

    public int feed(int a, int b, int c, int d, int e) {
        if (tape.length > 1980) {
            return NONE;
        }
        byte[] more = java.nio.ByteBuffer.allocate(20).putInt(a).putInt(b).putInt(c).putInt(d).putInt(e).array();
        int old = tape.length;
        tape = Arrays.copyOf(tape, old + 20);
        System.arraycopy(more, 0, tape, old, 20);
        return tape.length;
    }

    public int back(int n) {
        if (!in(n, 0, tape.length)) {
            return NONE;
        }
        tape = Arrays.copyOf(tape, tape.length - n);
        return tape.length;
    }

    public int read(int from) {
        if (!in(from, 0, 364) || laws.size() == 3) {
            return -2;
        }
        byte[] text = tape;
        tape = new byte[0];
        try {
            Law law = new Parser(text).parse();
            law.from = from;
            laws.add(law);
            place = NONE;
            return 0;
        } catch (Fault fault) {
            place = fault.place;
            return fault.number;
        }
    }

    public int place() {
        return place;
    }

    int children() {
        return (int) facts.stream().filter(f -> f.kind == Kind.CHILD).count();
    }

    int add(Kind kind, int a, int b, int c, int d) {
        if (facts.size() == 100) {
            return NONE;
        }
        facts.add(new Fact(kind, a, b, c, d));
        return facts.size() - 1;
    }

    public int child(int home, int school, int grade, int needs) {
        if (!in(home, 0, 11) || !in(school, 0, 2) || !in(grade, 0, 12) || !in(needs, 0, 3) || children() == 20) {
            return NONE;
        }
        return add(Kind.CHILD, home, school, grade, needs) == NONE ? NONE : children() - 1;
    }

    boolean isChild(int c) {
        return in(c, 0, children() - 1);
    }

    public int move(int child, int home, int from, boolean weeks) {
        return isChild(child) && in(home, 0, 11) && in(from, 0, 364)
                ? add(weeks ? Kind.WEEKS : Kind.MOVE, child, home, from, 0) : NONE;
    }

    public int shut(int way, int a, int b) {
        return in(way, 0, 23) && in(a, 0, 364) && in(b, a, 364) ? add(Kind.SHUT, way, a, b, 0) : NONE;
    }

    public int part(int child, int other) {
        return isChild(child) && isChild(other) && child != other ? add(Kind.PARTED, child, other, 0, 0) : NONE;
    }

    public int tap(int child, int stop, int day, int minute) {
        return isChild(child) && in(stop, 0, 5) && in(day, 0, 364) && in(minute, 0, 1439)
                ? add(Kind.TAP, child, stop, day, minute) : NONE;
    }

    public int annul(int fact) {
        return in(fact, 0, facts.size() - 1) && facts.get(fact).kind != Kind.CHILD
                && facts.get(fact).kind != Kind.VOID ? add(Kind.VOID, fact, 0, 0, 0) : NONE;
    }

    public int force(int day) {
        int best = NONE;
        for (int i = 0; in(day, 0, 364) && i < laws.size(); i++) {
            best = laws.get(i).from <= day ? i : best;
        }
        return best;
    }

    boolean isN(int n) {
        return in(n, 0, facts.size());
    }

    /** The facts that are some for one who knows the first n, with their numbers (null: none). */
    List<Fact> known(int n) {
        List<Fact> some = new ArrayList<>(facts.subList(0, n));
        for (Fact f : facts.subList(0, n)) {
            if (f.kind == Kind.VOID) {
                some.set(f.a, null);
            }
        }
        return some;
    }

    List<Fact> knownChildren(int n) {
        List<Fact> some = new ArrayList<>();
        for (Fact f : facts.subList(0, n)) {
            if (f.kind == Kind.CHILD) {
                some.add(f);
            }
        }
        return some;
    }

    boolean isKnownChild(int child, int n) {
        return isN(n) && in(child, 0, knownChildren(n).size() - 1);
    }

    public int home(int child, int day, int n) {
        if (!in(day, 0, 364) || !isKnownChild(child, n)) {
            return NONE;
        }
        Fact weeks = null;
        Fact moved = null;
        for (Fact f : known(n)) {
            if (f != null && f.a == child && f.c <= day) {
                if (f.kind == Kind.WEEKS && (day / 7) % 2 == 1 && (weeks == null || weeks.c <= f.c)) {
                    weeks = f;
                }
                if (f.kind == Kind.MOVE && (moved == null || moved.c <= f.c)) {
                    moved = f;
                }
            }
        }
        return weeks != null ? weeks.b : moved != null ? moved.b : knownChildren(n).get(child).a;
    }

    /** Everything about one day as known by n. */
    final class Day {
        final Law law;
        final int day;
        final int n;
        final List<Fact> known;
        final List<Fact> children;
        final int[][][] sums = new int[3][12][12];
        final int[][][] legs = new int[3][12][12];

        Day(int day, int n) {
            this.law = laws.get(force(day));
            this.day = day;
            this.n = n;
            known = known(n);
            children = knownChildren(n);
            for (int what = 0; what < 3; what++) {
                fill(what);
            }
        }

        boolean isShut(int way) {
            return known.stream().anyMatch(f -> f != null && f.kind == Kind.SHUT && f.a == way && f.b <= day
                    && day <= f.c);
        }

        void fill(int what) {
            int[][] leg = legs[what];
            for (int[] r : leg) {
                Arrays.fill(r, INF);
            }
            for (int w = 0; w < law.ways.size(); w++) {
                Way way = law.ways.get(w);
                if (!isShut(w) && !(what == 1 && way.bad)) {
                    int length = what == 2 ? way.minutes : way.metres;
                    leg[way.a][way.b] = Math.min(leg[way.a][way.b], length);
                    leg[way.b][way.a] = leg[way.a][way.b];
                }
            }
            int[][] s = sums[what];
            for (int i = 0; i < 12; i++) {
                s[i] = leg[i].clone();
                if (i < law.places.size()) {
                    s[i][i] = 0;
                }
            }
            for (int k = 0; k < 12; k++) {
                for (int i = 0; i < 12; i++) {
                    for (int j = 0; j < 12; j++) {
                        if (s[i][k] < INF && s[k][j] < INF) {
                            s[i][j] = Math.min(s[i][j], s[i][k] + s[k][j]);
                        }
                    }
                }
            }
        }

        /** Every way without a circle is walked, in rising order of places; the first with the least sum is kept. */
        List<Integer> row(int a, int b, int what) {
            return sums[what][a][b] >= INF ? null
                    : walk(what, b, sums[what][a][b], new ArrayList<>(List.of(a)));
        }

        List<Integer> walk(int what, int b, int left, List<Integer> gone) {
            int at = gone.get(gone.size() - 1);
            if (at == b) {
                return left == 0 ? gone : null;
            }
            for (int p = 0; p < 12; p++) {
                int leg = legs[what][at][p];
                if (leg <= left && !gone.contains(p)) {
                    List<Integer> longer = new ArrayList<>(gone);
                    longer.add(p);
                    List<Integer> found = walk(what, b, left - leg, longer);
                    if (found != null) {
                        return found;
                    }
                }
            }
            return null;
        }

        int right(int child) {
            Fact c = children.get(child);
            int home = home(child, day, n);
            int far = 9999;
            int safe = 9999;
            if (c.b < law.schools.size()) {
                int p = law.schools.get(c.b)[0];
                far = sums[0][home][p] >= INF ? 9999 : sums[0][home][p];
                safe = sums[1][home][p] >= INF ? 9999 : sums[1][home][p];
            }
            int[] vars = {c.c, c.d, far, safe, day};
            for (int i = 0; i < law.rights.size(); i++) {
                if (law.rights.get(i).of(vars)) {
                    return i;
                }
            }
            return -2;
        }

        int stop(int child) {
            if (right(child) == -2 || children.get(child).b >= law.schools.size()) {
                return -2;
            }
            int home = home(child, day, n);
            int best = -2;
            int least = INF;
            for (int s = 0; s < law.stops.size(); s++) {
                int sum = sums[1][home][law.stops.get(s)];
                if (sum < least && sum <= law.rules.get("walk")) {
                    least = sum;
                    best = s;
                }
            }
            return best;
        }
    }

    /** A school's riders by stop, and all that can be made of them. */
    final class Side {
        final Day d;
        final int school;
        final int at;
        final List<List<Integer>> riders = new ArrayList<>();
        List<Integer> bestKey;
        List<Integer> bestSets;
        int fewest = INF;

        Side(Day d, int school) {
            this.d = d;
            this.school = school;
            this.at = d.law.schools.get(school)[0];
            for (int s = 0; s < d.law.stops.size(); s++) {
                riders.add(new ArrayList<>());
            }
            for (int c = 0; c < d.children.size(); c++) {
                if (d.children.get(c).b == school && d.stop(c) >= 0) {
                    riders.get(d.stop(c)).add(c);
                }
            }
        }

        int seats(int c) {
            return (d.children.get(c).d & 2) != 0 ? 2 : 1;
        }

        int load(int stop) {
            return riders.get(stop).stream().mapToInt(this::seats).sum();
        }

        List<Integer> stopsOf(int set) {
            List<Integer> stops = new ArrayList<>();
            for (int s = 0; s < 6; s++) {
                if ((set >> s & 1) != 0) {
                    stops.add(s);
                }
            }
            return stops;
        }

        int minutes(List<Integer> order) {
            long sum = 0;
            for (int i = 0; i < order.size(); i++) {
                int to = i + 1 < order.size() ? d.law.stops.get(order.get(i + 1)) : at;
                sum += d.sums[2][d.law.stops.get(order.get(i))][to];
            }
            return sum >= INF ? INF : (int) sum;
        }

        /** The best order and behind it its minutes; null without. */
        List<Integer> route(int set) {
            List<Integer> stops = stopsOf(set);
            for (int s : stops) {
                if (riders.get(s).isEmpty()) {
                    return null;
                }
            }
            List<List<Integer>> orders = new ArrayList<>();
            permute(stops, new ArrayList<>(), orders);
            List<Integer> best = null;
            int least = INF;
            for (List<Integer> o : orders) {
                int m = minutes(o);
                if (m < least) {
                    least = m;
                    best = o;
                }
            }
            if (best == null) {
                return null;
            }
            best.add(least);
            return best;
        }

        void permute(List<Integer> left, List<Integer> taken, List<List<Integer>> out) {
            if (left.isEmpty()) {
                out.add(new ArrayList<>(taken));
            }
            for (Integer s : left) {
                List<Integer> rest = new ArrayList<>(left);
                rest.remove(s);
                taken.add(s);
                permute(rest, taken, out);
                taken.remove(taken.size() - 1);
            }
        }

        boolean good(int set) {
            List<Integer> r = route(set);
            if (r == null || r.get(r.size() - 1) > d.law.rules.get("ride")) {
                return false;
            }
            List<Integer> there = new ArrayList<>();
            stopsOf(set).forEach(s -> there.addAll(riders.get(s)));
            int load = there.stream().mapToInt(this::seats).sum();
            boolean parted = d.known.stream().anyMatch(f -> f != null && f.kind == Kind.PARTED && there.contains(f.a)
                    && there.contains(f.b));
            return load <= d.law.rules.get("seats") && !parted;
        }

        int payOf(int set) {
            List<Integer> r = route(set);
            boolean nurse = stopsOf(set).stream().anyMatch(s -> riders.get(s).stream()
                    .anyMatch(c -> (d.children.get(c).d & 1) != 0));
            return d.law.rules.get("bus") + d.law.rules.get("bus2") * r.get(r.size() - 1)
                    + (nurse ? d.law.rules.get("nurse") : 0);
        }

        int served() {
            int set = 0;
            for (int s = 0; s < riders.size(); s++) {
                set |= riders.get(s).isEmpty() ? 0 : 1 << s;
            }
            return set;
        }

        /** Tries all plans: a key is the pay, how many routes, then what each least stop that is left does. */
        void plan() {
            boolean[] good = new boolean[64];
            int[] pays = new int[64];
            int served = served();
            for (int set = 1; set < 64; set++) {
                if ((set & ~served) == 0 && good(set)) {
                    good[set] = true;
                    pays[set] = payOf(set);
                }
            }
            tryAll(served, good, pays, 0, new ArrayList<>());
        }

        void tryAll(int left, boolean[] good, int[] pays, int pay, List<Integer> sets) {
            if (left == 0) {
                List<Integer> key = new ArrayList<>(List.of(pay, (int) sets.stream().filter(s -> s > 0).count()));
                key.addAll(sets);
                if (bestKey == null || compare(key, bestKey) < 0) {
                    bestKey = key;
                    bestSets = new ArrayList<>(sets);
                }
                if (!sets.contains(0)) {
                    fewest = Math.min(fewest, sets.size());
                }
                return;
            }
            int stop = Integer.numberOfTrailingZeros(left);
            int m = d.sums[2][d.law.stops.get(stop)][at];
            if (m < INF) {
                sets.add(0);
                tryAll(left & ~(1 << stop), good, pays,
                        pay + d.law.rules.get("taxi") * riders.get(stop).size() * m, sets);
                sets.remove(sets.size() - 1);
            }
            for (int set = 1; set < 64; set++) {
                if (good[set] && (set & ~left) == 0 && (set >> stop & 1) != 0) {
                    sets.add(set);
                    tryAll(left & ~set, good, pays, pay + pays[set], sets);
                    sets.remove(sets.size() - 1);
                }
            }
        }

        List<Integer> routeSets() {
            List<Integer> sets = new ArrayList<>(bestSets);
            sets.removeIf(s -> s == 0);
            return sets;
        }

        int taxis() {
            int left = served();
            for (int s : routeSets()) {
                left &= ~s;
            }
            return left;
        }
    }

    static int compare(List<Integer> a, List<Integer> b) {
        for (int i = 0; i < Math.min(a.size(), b.size()); i++) {
            if (!a.get(i).equals(b.get(i))) {
                return a.get(i) < b.get(i) ? -1 : 1;
            }
        }
        return a.size() - b.size();
    }

    private final Map<String, Day> days = new HashMap<>();
    private final Map<String, Side> sides = new HashMap<>();

    Day day(int day, int n) {
        return force(day) == NONE || !isN(n) ? null
                : days.computeIfAbsent(force(day) + "/" + day + "/" + n, k -> new Day(day, n));
    }

    Side side(int school, int day, int n) {
        Day d = day(day, n);
        if (d == null || !in(school, 0, d.law.schools.size() - 1)) {
            return null;
        }
        return sides.computeIfAbsent(force(day) + "/" + day + "/" + n + "/" + school, k -> {
            Side s = new Side(d, school);
            s.plan();
            return s;
        });
    }

    public int dist(int a, int b, int what, int day, int n) {
        Day d = day(day, n);
        if (d == null || !in(what, 0, 2) || !in(a, 0, 11) || !in(b, 0, 11)) {
            return NONE;
        }
        return d.sums[what][a][b] >= INF ? -2 : d.sums[what][a][b];
    }

    public int row(int a, int b, int what, int day, int n, int i) {
        if (dist(a, b, what, day, n) < 0) {
            return NONE;
        }
        List<Integer> row = day(day, n).row(a, b, what);
        return in(i, 0, row.size() - 1) ? row.get(i) : NONE;
    }

    public int right(int child, int day, int n) {
        Day d = day(day, n);
        return d == null || !isKnownChild(child, n) ? NONE : d.right(child);
    }

    public int altered(int day, int other, int n) {
        Day d = day(day, n);
        Day e = day(other, n);
        if (d == null || e == null) {
            return NONE;
        }
        int count = 0;
        for (int c = 0; c < d.children.size(); c++) {
            count += (d.right(c) >= 0) != (e.right(c) >= 0) ? 1 : 0;
        }
        return count;
    }

    public int stop(int child, int day, int n) {
        Day d = day(day, n);
        return d == null || !isKnownChild(child, n) ? NONE : d.stop(child);
    }

    public int load(int school, int stop, int day, int n) {
        Side s = side(school, day, n);
        return s == null || !in(stop, 0, s.d.law.stops.size() - 1) ? NONE : s.load(stop);
    }

    boolean isSet(int school, int set, int day, int n) {
        Side s = side(school, day, n);
        return s != null && in(set, 1, (1 << s.d.law.stops.size()) - 1);
    }

    public int route(int school, int set, int day, int n) {
        if (!isSet(school, set, day, n)) {
            return NONE;
        }
        List<Integer> r = side(school, day, n).route(set);
        return r == null ? -2 : r.get(r.size() - 1);
    }

    public int routeStop(int school, int set, int day, int n, int i) {
        if (route(school, set, day, n) < 0) {
            return NONE;
        }
        List<Integer> r = side(school, day, n).route(set);
        return in(i, 0, r.size() - 2) ? r.get(i) : NONE;
    }

    public int good(int school, int set, int day, int n) {
        int r = route(school, set, day, n);
        return r < 0 ? r : side(school, day, n).good(set) ? 1 : 0;
    }

    public int pay(int school, int day, int n) {
        Side s = side(school, day, n);
        return s == null ? NONE : s.bestKey == null ? -2 : s.bestKey.get(0);
    }

    public int routes(int school, int day, int n) {
        Side s = side(school, day, n);
        return s == null ? NONE : s.bestKey == null ? -2 : s.routeSets().size();
    }

    public int routeSet(int school, int day, int n, int k) {
        return in(k, 0, routes(school, day, n) - 1) ? side(school, day, n).routeSets().get(k) : NONE;
    }

    public int taxis(int school, int day, int n) {
        Side s = side(school, day, n);
        return s == null ? NONE : s.bestKey == null ? -2 : s.taxis();
    }

    public int fewest(int school, int day, int n) {
        Side s = side(school, day, n);
        return s == null ? NONE : s.fewest == INF ? -2 : s.fewest;
    }

    record Trip(int school, int sum, int first) { }

    /** The trips of all plans; null if a school has none. */
    List<Trip> trips(int day, int n) {
        List<Trip> trips = new ArrayList<>();
        Day d = day(day, n);
        for (int s = 0; s < d.law.schools.size(); s++) {
            Side side = side(s, day, n);
            if (side.bestKey == null) {
                return null;
            }
            for (int set : side.routeSets()) {
                List<Integer> r = side.route(set);
                trips.add(new Trip(s, r.get(r.size() - 1), d.law.stops.get(r.get(0))));
            }
        }
        return trips;
    }

    int buses(Day d, List<Trip> trips, int[] puts) {
        int size = trips.size();
        boolean[][] follows = new boolean[size][size];
        for (int x = 0; x < size; x++) {
            for (int y = 0; y < size; y++) {
                Trip a = trips.get(x);
                Trip b = trips.get(y);
                int bellA = d.law.schools.get(a.school)[1] + puts[a.school];
                int bellB = d.law.schools.get(b.school)[1] + puts[b.school];
                long m = d.sums[2][d.law.schools.get(a.school)[0]][b.first];
                follows[x][y] = x != y && bellA + m <= bellB - b.sum && (bellA != bellB || x < y);
            }
        }
        return size - pairs(0, 0, follows, new HashMap<>());
    }

    /** How many trips from y on can have one ahead of them, each another that isn't used yet. */
    int pairs(int y, int used, boolean[][] follows, Map<Integer, Integer> memo) {
        if (y == follows.length) {
            return 0;
        }
        Integer seen = memo.get(used * 32 + y);
        if (seen != null) {
            return seen;
        }
        int best = pairs(y + 1, used, follows, memo);
        for (int x = 0; x < follows.length; x++) {
            if (follows[x][y] && (used >> x & 1) == 0) {
                best = Math.max(best, 1 + pairs(y + 1, used | 1 << x, follows, memo));
            }
        }
        memo.put(used * 32 + y, best);
        return best;
    }

    private final Map<String, List<Integer>> shifts = new HashMap<>();

    public int fleet(int day, int n) {
        Day d = day(day, n);
        if (d == null) {
            return NONE;
        }
        List<Trip> trips = trips(day, n);
        return trips == null ? -2 : buses(d, trips, new int[3]);
    }

    /** Buses, minutes put, then the shift of each school. */
    List<Integer> shifts(int day, int n) {
        return shifts.computeIfAbsent(force(day) + "/" + day + "/" + n, key -> {
            Day d = day(day, n);
            List<Trip> trips = trips(day, n);
            List<Integer> best = null;
            int size = d.law.schools.size();
            int[] puts = new int[3];
            for (puts[2] = size > 2 ? -20 : 0; puts[2] <= (size > 2 ? 20 : 0); puts[2] += 10) {
                for (puts[1] = size > 1 ? -20 : 0; puts[1] <= (size > 1 ? 20 : 0); puts[1] += 10) {
                    for (puts[0] = size > 0 ? -20 : 0; puts[0] <= (size > 0 ? 20 : 0); puts[0] += 10) {
                        List<Integer> one = List.of(buses(d, trips, puts),
                                Math.abs(puts[0]) + Math.abs(puts[1]) + Math.abs(puts[2]),
                                puts[0], puts[1], puts[2]);
                        best = best == null || compare(one, best) < 0 ? one : best;
                    }
                }
            }
            return best;
        });
    }

    public int shifted(int day, int n) {
        int f = fleet(day, n);
        return f < 0 ? f : shifts(day, n).get(0);
    }

    public int shift(int school, int day, int n) {
        if (fleet(day, n) < 0 || !in(school, 0, day(day, n).law.schools.size() - 1)) {
            return -100;
        }
        return shifts(day, n).get(2 + school);
    }

    public int bid(int firm, int set, int price) {
        if (!in(firm, 0, 5) || !in(set, 1, 1023) || !in(price, 0, 9999) || bids.size() == 20) {
            return NONE;
        }
        bids.add(new Bid(firm, set, price));
        return bids.size() - 1;
    }

    /** The sum and behind it the bids taken; null without. */
    List<Integer> bestAward(int left, int without) {
        if (left == 0) {
            return List.of(0);
        }
        List<Integer> best = null;
        for (int b = 0; b < bids.size(); b++) {
            Bid bid = bids.get(b);
            boolean onLeast = (bid.set >> Integer.numberOfTrailingZeros(left) & 1) != 0;
            List<Integer> rest = onLeast && (bid.set & ~left) == 0 && bid.firm != without
                    ? bestAward(left & ~bid.set, without) : null;
            if (rest != null) {
                List<Integer> one = new ArrayList<>(List.of(bid.price + rest.get(0), b));
                one.addAll(rest.subList(1, rest.size()));
                best = best == null || compare(one, best) < 0 ? one : best;
            }
        }
        return best;
    }

    public int award(int k, int without) {
        if (!in(k, 1, 10) || !in(without, -1, 5)) {
            return NONE;
        }
        List<Integer> best = bestAward((1 << k) - 1, without);
        return best == null ? -2 : best.get(0);
    }

    public int awarded(int k, int without, int route) {
        if (award(k, without) < 0 || !in(route, 0, k - 1)) {
            return NONE;
        }
        List<Integer> best = bestAward((1 << k) - 1, without);
        for (int b : best.subList(1, best.size())) {
            if ((bids.get(b).set >> route & 1) != 0) {
                return b;
            }
        }
        return NONE;
    }

    public int driver(int set) {
        if (!in(set, 0, 1023) || drivers.size() == 8) {
            return NONE;
        }
        drivers.add(set);
        return drivers.size() - 1;
    }

    public boolean leave(int driver, boolean is) {
        if (!in(driver, 0, drivers.size() - 1)) {
            return false;
        }
        if (is) {
            away.add(driver);
        } else {
            away.remove(driver);
        }
        return true;
    }

    public boolean weigh(int route, int weight) {
        if (!in(route, 0, 9) || !in(weight, 0, 99)) {
            return false;
        }
        weights[route] = weight;
        return true;
    }

    /** The weight left from a route on and behind it the drivers, nobody being 8. */
    List<Integer> bestCover(int k, int route, int taken, Map<Integer, List<Integer>> memo) {
        if (route == k) {
            return List.of(0);
        }
        List<Integer> best = memo.get(taken * 16 + route);
        if (best != null) {
            return best;
        }
        for (int d = 0; d <= 8; d++) {
            boolean can = d == 8 || d < drivers.size() && !away.contains(d) && (drivers.get(d) >> route & 1) != 0
                    && (taken >> d & 1) == 0;
            if (can) {
                List<Integer> rest = bestCover(k, route + 1, d == 8 ? taken : taken | 1 << d, memo);
                List<Integer> one = new ArrayList<>(List.of(rest.get(0) + (d == 8 ? weights[route] : 0), d));
                one.addAll(rest.subList(1, rest.size()));
                best = best == null || compare(one, best) < 0 ? one : best;
            }
        }
        memo.put(taken * 16 + route, best);
        return best;
    }

    public int cover(int k) {
        return in(k, 1, 10) ? bestCover(k, 0, 0, new HashMap<>()).get(0) : NONE;
    }

    public int drives(int k, int route) {
        if (!in(k, 1, 10) || !in(route, 0, k - 1)) {
            return NONE;
        }
        int d = bestCover(k, 0, 0, new HashMap<>()).get(1 + route);
        return d == 8 ? -2 : d;
    }

    public int call(int a, int b, int m) {
        if (!in(a, 0, 11) || !in(b, 0, 11) || a == b || !in(m, 1, 99) || calls.size() == 30) {
            return NONE;
        }
        calls.add(new Call(a, b, m));
        return calls.size();
    }

    /** Lets the minutes go by: each entry is a call's end and who is told by it. */
    int[] times(int first) {
        int[] times = new int[12];
        Arrays.fill(times, INF);
        PriorityQueue<int[]> ends = new PriorityQueue<>((x, y) -> x[0] - y[0]);
        ends.add(new int[] {0, first});
        while (!ends.isEmpty()) {
            int[] end = ends.remove();
            if (times[end[1]] == INF) {
                times[end[1]] = end[0];
                int clock = end[0];
                for (Call c : calls) {
                    if (c.a == end[1]) {
                        clock += c.m;
                        ends.add(new int[] {clock, c.b});
                    }
                }
            }
        }
        return times;
    }

    public int told(int a, int b) {
        if (!in(a, 0, 11) || !in(b, 0, 11)) {
            return NONE;
        }
        return times(a)[b] == INF ? -2 : times(a)[b];
    }

    public int soonest() {
        List<List<Integer>> all = new ArrayList<>();
        for (int a = 0; a < 12; a++) {
            int[] told = Arrays.stream(times(a)).filter(t -> t < INF).toArray();
            all.add(List.of(-told.length, Arrays.stream(told).max().getAsInt(), a));
        }
        return Collections.min(all, Model::compare).get(2);
    }

    List<int[]> lents(int n) {
        List<int[]> pairs = new ArrayList<>();
        List<Fact> known = known(n);
        for (int i = 0; i < n; i++) {
            for (int j = i + 1; j < n; j++) {
                Fact a = known.get(i);
                Fact b = known.get(j);
                if (a == null || b == null || a.kind != Kind.TAP || b.kind != Kind.TAP || a.a != b.a || a.c != b.c
                        || force(a.c) == NONE) {
                    continue;
                }
                Day d = day(a.c, n);
                int m = Math.max(a.b, b.b) >= d.law.stops.size() ? INF
                        : d.sums[2][d.law.stops.get(a.b)][d.law.stops.get(b.b)];
                if (Math.abs(a.d - b.d) < m) {
                    pairs.add(new int[] {i, j});
                }
            }
        }
        return pairs;
    }

    public int lent(int n) {
        return isN(n) ? lents(n).size() : NONE;
    }

    public int lentAt(int n, int i, boolean second) {
        return isN(n) && in(i, 0, lents(n).size() - 1) ? lents(n).get(i)[second ? 1 : 0] : NONE;
    }

    public int count(int what) {
        int[] plain = {laws.size(), facts.size(), children(), bids.size(), drivers.size(), calls.size(), tape.length};
        if (in(what, 0, 6)) {
            return plain[what];
        }
        if (!in(what, 10, 49) || what % 10 >= laws.size()) {
            return NONE;
        }
        Law law = laws.get(what % 10);
        return List.of(law.places, law.ways, law.stops, law.rights).get(what / 10 - 1).size();
    }
}
