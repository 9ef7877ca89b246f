import java.lang.reflect.Constructor;
import java.lang.reflect.Field;
import java.lang.reflect.Method;
import java.lang.reflect.Modifier;
import java.nio.file.Files;
import java.nio.file.Path;
import java.util.ArrayList;
import java.util.Arrays;
import java.util.HashSet;
import java.util.List;
import java.util.Set;
import java.util.TreeSet;
import java.util.regex.Matcher;
import java.util.regex.Pattern;

/** The class has the document's face and no other, and its source keeps to what can be seen of LANGUAGE.md. */
public final class FaceTest {
    private static final String FACE = "feed(int,int,int,int,int)int back(int)int read(int)int place()int "
            + "child(int,int,int,int)int move(int,int,int,boolean)int shut(int,int,int)int part(int,int)int "
            + "tap(int,int,int,int)int annul(int)int force(int)int home(int,int,int)int dist(int,int,int,int,int)int "
            + "row(int,int,int,int,int,int)int right(int,int,int)int altered(int,int,int)int stop(int,int,int)int "
            + "load(int,int,int,int)int route(int,int,int,int)int routeStop(int,int,int,int,int)int "
            + "good(int,int,int,int)int pay(int,int,int)int routes(int,int,int)int routeSet(int,int,int,int)int "
            + "taxis(int,int,int)int fewest(int,int,int)int fleet(int,int)int shifted(int,int)int shift(int,int,int)int "
            + "bid(int,int,int)int award(int,int)int awarded(int,int,int)int driver(int)int leave(int,boolean)boolean "
            + "weigh(int,int)boolean cover(int)int drives(int,int)int call(int,int,int)int told(int,int)int soonest()int "
            + "lent(int)int lentAt(int,int,boolean)int count(int)int";
    private static int wrong = 0;

    public static void main(String[] args) throws Exception {
        face();
        classesInside();
        source(Files.readAllLines(Path.of("src/main/java/SchoolRides.java")));
        System.out.println(wrong + " rules broken");
        if (wrong != 0) {
            System.exit(1);
        }
    }

    private static void need(boolean is, String what) {
        if (!is) {
            wrong++;
            System.out.println("not so: " + what);
        }
    }

    private static void face() throws Exception {
        Class<?> c = SchoolRides.class;
        need(c.getModifiers() == (Modifier.PUBLIC | Modifier.FINAL), "public final");
        Constructor<?>[] made = c.getDeclaredConstructors();
        need(made.length == 1 && made[0].getParameterCount() == 0 && Modifier.isPublic(made[0].getModifiers()),
                "one public constructor");
        Set<String> open = new TreeSet<>();
        Set<String> openNames = new HashSet<>();
        for (Method m : c.getDeclaredMethods()) {
            if (!Modifier.isPrivate(m.getModifiers())) {
                need(m.getModifiers() == Modifier.PUBLIC, m + " is public and no more");
                open.add(signature(m));
                openNames.add(m.getName());
            }
        }
        need(open.equals(new TreeSet<>(Arrays.asList(FACE.split(" ")))), "the methods are the document's: " + open);
        for (Field f : c.getDeclaredFields()) {
            boolean isNone = f.getName().equals("NONE");
            need(isNone ? f.getModifiers() == (Modifier.PUBLIC | Modifier.STATIC | Modifier.FINAL)
                    : Modifier.isPrivate(f.getModifiers()), f + " is the document's or private");
        }
        need(SchoolRides.NONE == -1, "NONE is -1");
        for (Class<?> inside : c.getDeclaredClasses()) {
            for (Method m : inside.getDeclaredMethods()) {
                need(!openNames.contains(m.getName()), m + " has a name of its own");
            }
        }
        for (Method m : c.getDeclaredMethods()) {
            need(!Modifier.isPrivate(m.getModifiers()) || !openNames.contains(m.getName()), m + " has a name of its own");
        }
    }

    private static String signature(Method m) {
        List<String> types = new ArrayList<>();
        for (Class<?> t : m.getParameterTypes()) {
            types.add(t.getName());
        }
        return m.getName() + "(" + String.join(",", types) + ")" + m.getReturnType().getName();
    }

    private static void classesInside() {
        Class<?>[] inside = SchoolRides.class.getDeclaredClasses();
        need(inside.length < 12, "at most twelve classes");
        List<Class<?>> all = new ArrayList<>(Arrays.asList(inside));
        all.add(SchoolRides.class);
        for (Class<?> c : all) {
            need(c == SchoolRides.class || Modifier.isStatic(c.getModifiers()) && Modifier.isPrivate(c.getModifiers()),
                    c + " is static and private");
            need(c.getDeclaredClasses().length == 0 || c == SchoolRides.class, c + " has no class inside");
            int fields = 0;
            for (Field f : c.getDeclaredFields()) {
                boolean isStatic = Modifier.isStatic(f.getModifiers());
                need(!isStatic || Modifier.isFinal(f.getModifiers()), f + " is no static state");
                fields += isStatic ? 0 : 1;
            }
            need(fields <= 20, c + " has at most twenty fields: " + fields);
            for (Method m : c.getDeclaredMethods()) {
                need(m.getParameterCount() <= 7, m + " has at most seven parameters");
            }
        }
    }

    private static void source(List<String> lines) {
        Pattern banned = Pattern.compile("\\b(throw|throws|try|catch|synchronized|assert|hashCode|toString|Exact|"
                + "Object|Exception|Error|System\\.(?!arraycopy)|instanceof|protected|yield|var)\\b|->|::|\\bExact\\(");
        Set<String> imports = Set.of("import java.util.Arrays;");
        int methodStart = -1;
        boolean inConstructor = false;
        for (int i = 0; i < lines.size(); i++) {
            String line = lines.get(i);
            String code = line.replaceAll("//.*|^\\s*/?\\*.*", "").replaceAll("\"[^\"]*\"", "\"\"");
            Matcher m = banned.matcher(code);
            need(!m.find(), "line " + (i + 1) + " without " + (m.reset().find() ? m.group() : ""));
            need(!code.startsWith("import") || imports.contains(code), "line " + (i + 1) + " imports what is listed");
            need(line.chars().allMatch(ch -> ch >= 32 && ch < 127), "line " + (i + 1) + " has plain signs");
            if (code.matches("( {4}| {8})\\w.*\\) \\{") && !code.matches("\\s*(if|for|while|switch|do)\\b.*")) {
                methodStart = i;
                inConstructor = code.matches("\\s*(public )?[A-Z]\\w*\\(.*");
            }
            if (methodStart >= 0 && code.matches("( {4}| {8})\\}") && code.indexOf('}') == indent(lines.get(methodStart))) {
                need(i - methodStart < 60, "the method of line " + (methodStart + 1) + " is short");
                methodStart = -1;
                inConstructor = false;
            }
            need(!code.contains("new ") || methodStart < 0 || inConstructor,
                    "line " + (i + 1) + " makes nothing outside of a constructor");
        }
    }

    private static int indent(String line) {
        return line.length() - line.stripLeading().length();
    }
}
