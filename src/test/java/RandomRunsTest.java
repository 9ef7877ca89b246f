import java.lang.reflect.Method;
import java.nio.charset.StandardCharsets;
import java.util.ArrayList;
import java.util.Arrays;
import java.util.List;
import java.util.Random;

/** Runs drawn by chance (the same each time) in which the class must answer as the slow model does. */
public final class RandomRunsTest {
    private static final List<Method> METHODS = new ArrayList<>();
    private static int wrong = 0;
    private static long calls = 0;

    private final Random chance;
    private final SchoolRides rides = new SchoolRides();
    private final Model model = new Model();
    private final List<String> done = new ArrayList<>();
    private boolean ok = true;

    private RandomRunsTest(long seed) {
        chance = new Random(seed * 0x9E3779B97F4A7C15L);
    }

    public static void main(String[] args) throws Exception {
        for (Method m : SchoolRides.class.getDeclaredMethods()) {
            if (java.lang.reflect.Modifier.isPublic(m.getModifiers())) {
                METHODS.add(m);
            }
        }
        METHODS.sort((a, b) -> a.getName().compareTo(b.getName()));
        long first = args.length > 0 ? Long.parseLong(args[0]) : 1;
        long runs = args.length > 1 ? Long.parseLong(args[1]) : 1500;
        for (long seed = first; seed < first + runs && wrong < 5; seed++) {
            new RandomRunsTest(seed).run();
        }
        System.out.println(calls + " calls, " + wrong + " runs with a wrong answer");
        if (wrong != 0) {
            System.exit(1);
        }
    }

    private Object ask(String name, Object... args) throws Exception {
        if (!ok) {
            return -1;
        }
        for (Method m : METHODS) {
            if (m.getName().equals(name)) {
                Object got = m.invoke(rides, args);
                Object want = Model.class.getDeclaredMethod(name, m.getParameterTypes()).invoke(model, args);
                calls++;
                done.add(name + Arrays.toString(args) + " = " + got);
                if (!got.equals(want)) {
                    wrong++;
                    ok = false;
                    System.out.println(String.join("\n", done.subList(Math.max(0, done.size() - 400), done.size())));
                    System.out.println("due is " + want);
                }
                return got;
            }
        }
        throw new IllegalStateException(name);
    }

    private int below(int n) {
        return chance.nextInt(n);
    }

    private boolean often(int percent) {
        return below(100) < percent;
    }

    /** Mostly 0 .. n - 1, now and then just beside it or far off. */
    private int about(int n) {
        if (often(3)) {
            return often(50) ? -1 : n;
        }
        if (often(1)) {
            int[] odd = {Integer.MIN_VALUE, Integer.MAX_VALUE, -2, 1 << 30, 31, 32, 33};
            return odd[below(odd.length)];
        }
        return below(Math.max(1, n));
    }

    private void run() throws Exception {
        int style = below(8);
        if (style == 6) {
            runOfPlans();
            return;
        }
        if (style == 7) {
            runOfLists();
            return;
        }
        if (style == 0) {
            for (int i = 0; i < 40 && ok && model.count(0) < 3; i++) {
                readText(mutate(text()), about(365));
            }
            return;
        }
        if (often(90)) {
            readText(text(), often(80) ? 0 : below(365));
        }
        int children = below(21);
        for (int i = 0; i < children; i++) {
            ask("child", about(often(70) ? Math.max(1, model.count(10)) : 12),
                    about(often(80) ? 1 + below(3) : 3), about(13), often(60) ? 0 : about(4));
        }
        int length = 20 + below(150);
        for (int i = 0; i < length && ok; i++) {
            step(style);
        }
    }

    /** A map on which all can ride, so that plans have several routes. */
    private void runOfPlans() throws Exception {
        readText(richText(), 0);
        int children = 8 + below(13);
        int places = model.count(10);
        for (int i = 0; i < children; i++) {
            ask("child", below(places), below(3), below(13), often(70) ? 0 : below(4));
        }
        for (int round = 0; round < 6 && ok; round++) {
            int day = below(15);
            int n = often(80) ? model.count(1) : below(model.count(1) + 1);
            for (int school = 0; school < 3; school++) {
                ask("pay", school, day, n);
                ask("taxis", school, day, n);
                ask("fewest", school, day, n);
                int routes = (Integer) ask("routes", school, day, n);
                for (int k = 0; k <= routes; k++) {
                    int set = (Integer) ask("routeSet", school, day, n, k);
                    askRoute(school, set, day, n);
                }
                for (int k = 0; k < 4; k++) {
                    askRoute(school, 1 + below(63), day, n);
                    ask("load", school, below(6), day, n);
                }
                ask("shift", school, day, n);
            }
            ask("fleet", day, n);
            ask("shifted", day, n);
            ask("part", below(children), below(children));
            ask("part", below(children), below(children));
            ask("shut", below(model.count(20)), below(8), 7 + below(10));
            ask("move", below(children), below(places), below(12), often(50));
            ask("annul", children + below(model.count(1) - children));
        }
    }

    private void askRoute(int school, int set, int day, int n) throws Exception {
        ask("route", school, set, day, n);
        ask("good", school, set, day, n);
        for (int i = 0; i < 4; i++) {
            ask("routeStop", school, set, day, n, i);
        }
    }

    private String richText() {
        StringBuilder b = new StringBuilder();
        int places = 4 + below(6);
        for (int i = 0; i < places; i++) {
            b.append("place p").append((char) ('a' + i)).append(';');
        }
        for (int i = 0; i < places; i++) {
            b.append("way p").append((char) ('a' + i)).append(" p").append((char) ('a' + (i + 1) % places))
                    .append(' ').append(100 * (1 + below(4))).append(' ').append(1 + below(6)).append(often(10) ? " bad;" : ";");
            int j = below(places);
            if (j != i) {
                b.append("way p").append((char) ('a' + i)).append(" p").append((char) ('a' + j))
                        .append(' ').append(100 * (1 + below(6))).append(' ').append(1 + below(6)).append(";");
            }
        }
        for (int i = 0; i < 3; i++) {
            b.append("school s").append((char) ('a' + i)).append(" at p").append((char) ('a' + below(places)))
                    .append(' ').append(480 + 5 * below(14)).append(';');
        }
        int stops = 3 + below(4);
        for (int i = 0; i < stops; i++) {
            b.append("stop t").append((char) ('a' + i)).append(" at p").append((char) ('a' + below(places))).append(';');
        }
        b.append(often(70) ? "right if 0==0;" : "right if class<9 or needs!=0;right if 400<far;");
        b.append("seats ").append(2 + below(8)).append(";ride ").append(4 + below(20)).append(";walk ")
                .append(often(50) ? 300 : 900).append(";taxi ").append(1 + below(30)).append(";nurse ")
                .append(often(50) ? 10 * below(4) : below(40)).append(";bus ").append(10 * below(5)).append(' ').append(below(4)).append(';');
        return b.toString();
    }

    /** Bids, drivers and calls so dense that something comes of them. */
    private void runOfLists() throws Exception {
        int routes = 1 + below(10);
        for (int i = 0; i < 22; i++) {
            ask("bid", below(6), 1 << below(routes) | (often(60) ? 1 << below(routes) : 0) | (often(20) ? 1 << below(routes) : 0),
                    often(50) ? 10 * below(4) : below(100));
            ask("call", below(often(50) ? 6 : 12), below(12), 1 + below(often(50) ? 5 : 99));
            if (often(30)) {
                ask("driver", often(60) ? 1 << below(routes) | 1 << below(routes) : below(1024));
            }
            ask("weigh", below(10), often(60) ? below(4) : below(100));
            ask("leave", below(8), often(40));
            for (int k = 1; k <= 10; k++) {
                int without = below(7) - 1;
                if (k >= routes - 1 && k <= routes) {
                    ask("award", k, without);
                    ask("cover", k);
                    for (int r = 0; r < k; r++) {
                        ask("awarded", k, without, r);
                        ask("drives", k, r);
                    }
                }
            }
            ask("told", below(12), below(12));
            ask("told", below(6), below(12));
            ask("soonest");
        }
    }

    private void step(int style) throws Exception {
        int kind = below(100);
        if (kind < 3) {
            readText(often(50) ? text() : mutate(text()), about(365));
        } else if (kind < 40) {
            tellSomething();
        } else if (style == 1) {
            askAtAll(METHODS.get(below(METHODS.size())));
        } else {
            askOfDay();
        }
    }

    private int day() {
        return often(60) ? below(15) : about(365);
    }

    private int n() {
        int facts = model.count(1);
        return often(60) ? facts : about(facts + 1);
    }

    private int child() {
        return about(model.count(2));
    }

    private void tellSomething() throws Exception {
        switch (below(10)) {
            case 0:
                ask("move", child(), about(12), day(), chance.nextBoolean());
                break;
            case 1:
                ask("shut", about(24), day(), day());
                break;
            case 2:
                ask("part", child(), child());
                break;
            case 3:
            case 4:
                ask("tap", often(70) ? 0 : child(), about(6), often(80) ? 3 : day(), often(50) ? 480 + below(30) : about(1440));
                break;
            case 5:
                ask("annul", about(model.count(1)));
                break;
            case 6:
                ask("bid", about(6), often(70) ? 1 << below(4) | 1 << below(10) : about(1024),
                        often(80) ? 10 * below(10) : about(10000));
                break;
            case 7:
                ask("driver", about(1024));
                ask("weigh", about(10), often(60) ? below(4) : about(100));
                break;
            case 8:
                ask("call", about(12), about(12), often(70) ? 1 + below(9) : about(100));
                break;
            default:
                ask("leave", about(model.count(4)), often(40));
        }
    }

    private void askOfDay() throws Exception {
        int day = day();
        int n = n();
        int school = about(3);
        switch (below(7)) {
            case 0:
                for (int i = 0; i < 4; i++) {
                    ask("right", child(), day, n);
                    ask("stop", child(), day, n);
                    ask("home", child(), day, n);
                }
                ask("altered", day, day(), n);
                break;
            case 1: {
                int a = about(12);
                int b = about(12);
                int what = about(3);
                ask("dist", a, b, what, day, n);
                for (int i = -1; i < 6; i++) {
                    ask("row", a, b, what, day, n, i);
                }
                break;
            }
            case 2:
                for (int i = 0; i < 3; i++) {
                    int set = about(64);
                    ask("load", school, about(6), day, n);
                    ask("route", school, set, day, n);
                    ask("good", school, set, day, n);
                    ask("routeStop", school, set, day, n, about(6));
                }
                break;
            case 3:
                for (school = 0; school < 3; school++) {
                    ask("pay", school, day, n);
                    ask("routes", school, day, n);
                    ask("taxis", school, day, n);
                    ask("routeSet", school, day, n, about(3));
                    ask("fewest", school, day, n);
                }
                break;
            case 4:
                ask("fleet", day, n);
                ask("shifted", day, n);
                for (school = 0; school < 3; school++) {
                    ask("shift", school, day, n);
                }
                break;
            case 5:
                ask("lent", n);
                ask("lentAt", n, about(6), true);
                ask("lentAt", n, about(6), false);
                ask("soonest");
                ask("told", about(12), about(12));
                break;
            default: {
                int k = about(11);
                int without = below(7) - 1;
                ask("award", k, without);
                ask("awarded", k, without, about(10));
                ask("cover", k);
                ask("drives", k, about(10));
                ask("count", about(50));
            }
        }
    }

    private void askAtAll(Method m) throws Exception {
        Class<?>[] types = m.getParameterTypes();
        Object[] args = new Object[types.length];
        for (int i = 0; i < args.length; i++) {
            args[i] = types[i] == boolean.class ? (Object) chance.nextBoolean()
                    : (Object) (often(80) ? about(3 + below(12)) : often(80) ? about(70) : chance.nextInt());
        }
        ask(m.getName(), args);
    }

    private void readText(String text, int from) throws Exception {
        byte[] bytes = text.getBytes(StandardCharsets.ISO_8859_1);
        int rounds = (bytes.length + 19) / 20;
        byte[] padded = Arrays.copyOf(bytes, rounds * 20);
        java.nio.ByteBuffer buffer = java.nio.ByteBuffer.wrap(padded);
        int stayed = model.count(6);
        if (stayed > 0 && often(90)) {
            ask("back", stayed);
        }
        for (int i = 0; i < rounds; i++) {
            ask("feed", buffer.getInt(), buffer.getInt(), buffer.getInt(), buffer.getInt(), buffer.getInt());
        }
        ask("back", padded.length - bytes.length);
        done.add("-- " + text);
        ask("read", from);
        ask("place");
        for (int i = 0; i < 3; i++) {
            ask("count", 10 * (1 + below(4)) + i);
        }
    }

    // ---- texts ----

    private final List<String> names = new ArrayList<>();

    private String text() {
        StringBuilder b = new StringBuilder();
        names.clear();
        int places = often(80) ? 1 + below(8) : often(80) ? 12 : 13;
        for (int i = 0; i < places; i++) {
            b.append("place ").append(newName()).append(';').append(blank());
        }
        int stopsAt = names.size();
        int ways = often(90) ? places * 2 + below(4) : 22 + below(4);
        for (int i = 0; i < ways; i++) {
            int a = below(stopsAt);
            int c = often(98) ? (a + 1 + below(Math.max(1, stopsAt - 1))) % stopsAt : below(stopsAt);
            if (a == c && often(95)) {
                continue;
            }
            b.append("way ").append(names.get(a)).append(' ').append(names.get(c)).append(' ')
                    .append(often(60) ? 100 * (1 + below(8)) : often(99) ? 1 + below(9999) : 0).append(' ')
                    .append(often(90) ? 1 + below(9) : often(90) ? 1 + below(99) : below(120))
                    .append(often(25) ? " bad;" : ";");
        }
        int schools = often(90) ? 1 + below(3) : below(5);
        for (int i = 0; i < schools; i++) {
            b.append("school ").append(newName()).append(" at ").append(names.get(below(stopsAt))).append(' ')
                    .append(often(90) ? 480 + 5 * below(8) : below(1450)).append(';');
        }
        int stops = often(90) ? 1 + below(6) : below(8);
        for (int i = 0; i < stops; i++) {
            b.append("stop ").append(newName()).append(" at ").append(names.get(below(stopsAt))).append(';').append(blank());
        }
        int rights = often(90) ? 1 + below(3) : below(10);
        for (int i = 0; i < rights; i++) {
            b.append("right if ").append(often(25) ? "0 == 0" : cond()).append(';');
        }
        rule(b, 50, "seats", 8);
        rule(b, 30, "ride", 40);
        rule(b, 40, "walk", 1500);
        rule(b, 50, "taxi", 4);
        rule(b, 20, "nurse", 10);
        if (often(60)) {
            b.append("bus ").append(below(30)).append(' ').append(below(3)).append(';');
        }
        return b.length() > 2000 ? b.substring(0, 2000) : b.toString();
    }

    private void rule(StringBuilder b, int percent, String word, int most) {
        if (often(percent)) {
            b.append(word).append(' ').append(often(99) ? 1 + below(most) : 0).append(';').append(blank());
        }
    }

    private String blank() {
        return often(90) ? "" : new String[] {" ", "\n", "\t", "\r", "  \r\n"}[below(5)];
    }

    private String newName() {
        String[] some = {"a", "b", "ab", "x", "y", "abcdefgh", "ways", "fa", "classes"};
        String name = often(5) ? some[below(some.length)] : Integer.toString(10 + names.size(), 36)
                .replaceAll("[0-9]", "q") + (char) ('a' + names.size() % 26);
        names.add(name);
        return name;
    }

    private String cond() {
        StringBuilder b = new StringBuilder();
        int parts = 1 + below(often(95) ? 3 : 12);
        for (int i = 0; i < parts; i++) {
            b.append(i == 0 ? "" : often(50) ? " or " : " and ");
            for (int k = often(25) ? 1 + below(often(90) ? 3 : 60) : 0; k > 0; k--) {
                b.append("not ");
            }
            b.append(sum(often(90) ? 2 : 8)).append(new String[] {"==", "!=", "<", " <= "}[below(4)]).append(sum(often(90) ? 2 : 9));
        }
        return b.toString();
    }

    private String sum(int depth) {
        StringBuilder b = new StringBuilder();
        int parts = 1 + (often(40) ? below(3) : 0);
        for (int i = 0; i < parts; i++) {
            b.append(i == 0 ? "" : new String[] {"+", " - ", "*", "-"}[below(4)]);
            if (depth > 0 && often(depth > 4 ? 85 : 25)) {
                b.append('(').append(sum(depth - 1)).append(')');
            } else {
                b.append(often(40) ? Integer.toString(often(70) ? below(13) : below(10000))
                        : new String[] {"class", "needs", "far", "safe", "day"}[below(5)]);
            }
        }
        return b.toString();
    }

    private String mutate(String text) {
        StringBuilder b = new StringBuilder(text);
        if (often(25)) {
            String[] tells = {"place pa;", "stop s at none;", "way none none 0 0;", "school s at none 1440;", "ride 0;",
                "place zz;school zz at zz 1440;", "place zz;stop zz at zz;", "place zz;way zz zz 0 100;"};
            int at = b.indexOf(";", below(b.length() + 1)) + 1;
            b.insert(at, tells[below(tells.length)]);
        }
        int times = often(60) ? 0 : 1 + below(2);
        String[] bits = {";", " ", "=", "==", "!", "!=", "<", "(", ")", "((((((", "+", "*", "-", "1", "00000", "99",
            "a", "z", "abcdefghi", "bad", "place ", "way ", "right if ", " and ", " or ", " not ", "not not ", "A",
            "\u0000", "\u00e9", "bus 1 2;", "stop ", "school ", "seats 0;", "ride 0;", " at ", "class ", "day",
            "place a;", "place b;way a b 1 1;", "\n"};
        for (int i = 0; i < times && b.length() > 0; i++) {
            int at = below(b.length());
            switch (below(5)) {
                case 0:
                    b.deleteCharAt(at);
                    break;
                case 1:
                    b.insert(at, bits[below(bits.length)]);
                    break;
                case 2:
                    b.setLength(at);
                    break;
                case 3:
                    b.append(bits[below(bits.length)]);
                    break;
                default: {
                    int end = Math.min(b.length(), at + below(30));
                    b.append(b.substring(at, end));
                }
            }
        }
        if (often(10)) {
            String more = bits[below(bits.length)];
            while (b.length() < 1950) {
                b.append(more.isEmpty() ? " " : more);
            }
        }
        if (often(8)) {
            b.setLength(0);
            b.append("right if ").append(often(50) ? "not ".repeat(390 + below(12)) : "1+".repeat(190 + below(12))).append("1==1;seats 3;");
        }
        return b.length() > 2000 ? b.substring(0, 2000) : b.toString();
    }
}
