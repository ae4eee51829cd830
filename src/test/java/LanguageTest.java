import java.io.IOException;
import java.lang.reflect.Field;
import java.lang.reflect.Method;
import java.lang.reflect.Modifier;
import java.nio.file.Files;
import java.nio.file.Path;
import java.util.Arrays;
import java.util.Random;
import java.util.Set;
import java.util.TreeSet;
import java.util.regex.Matcher;
import java.util.regex.Pattern;

/** Rules of LANGUAGE.md that can be seen in the file or in the face of the class; run from the project's folder. */
public final class LanguageTest {
    private static final Due DUE = new Due("LanguageTest");
    private static final String[] RULED_OUT = {"\\bthrows?\\b", "\\btry\\b", "\\bcatch\\b", "\\bfinally\\b",
        "\\bsynchronized\\b", "\\bassert\\b", "\\bpackage\\b", "\\bnative\\b", "\\bvolatile\\b", "Exact\\b", "::",
        "(?m)^(?!.*\\b(case|default)\\b).*->"};
    private static final Set<String> IMPORTS = Set.of("java.util.Arrays", "java.util.ArrayList", "java.util.List",
        "java.util.Iterator");
    /** What rule 4 lists of calls on a class's name; of Math, Integer and Long those of its kind that make sense here. */
    private static final Pattern CALLED_ON = Pattern.compile("System\\.arraycopy|Arrays\\.(copyOf|copyOfRange|fill)|List\\.of"
        + "|Math\\.(max|min|abs|floorDiv|floorMod)|(Integer|Long)\\.(compare|max|min|signum|bitCount|numberOf\\w+"
        + "|highestOneBit|lowestOneBit|reverse|rotateLeft|rotateRight|sum)");
    private static final int OBJECTS = 100;
    /** Of some 22 calls each, so that no object is asked for more than 512. */
    private static final int ROUNDS = 20;

    private LanguageTest() {
    }

    public static void main(String[] args) throws IOException {
        String source = Files.readString(Path.of("src/main/java/HoseSpans.java"));
        words(source.replaceAll("(?s)/\\*.*?\\*/", "").replaceAll("//.*", ""));
        face();
        allocates();
        neverThrows();
        DUE.end();
    }

    private static void words(String code) {
        DUE.part("words");
        for (String word : RULED_OUT) {
            DUE.holds("no " + word, !Pattern.compile(word).matcher(code).find());
        }
        Matcher call = Pattern.compile("\\b([A-Z][a-z]\\w*\\.[a-z]\\w*)\\(").matcher(code);
        while (call.find()) {
            DUE.holds(call.group(1) + " may be called", CALLED_ON.matcher(call.group(1)).matches());
        }
        Matcher inside = Pattern.compile("\\b(class|record|enum|interface) ").matcher(code);
        int classes = 0;
        while (inside.find()) {
            classes++;
        }
        DUE.holds("twelve classes or fewer", classes <= 12);
        Matcher imported = Pattern.compile("import ([^;]*);").matcher(code);
        while (imported.find()) {
            DUE.holds("import of " + imported.group(1), IMPORTS.contains(imported.group(1)));
        }
    }

    private static void face() {
        DUE.part("face");
        Set<String> open = new TreeSet<>();
        Set<String> hidden = new TreeSet<>();
        for (Method m : HoseSpans.class.getDeclaredMethods()) {
            boolean isPublic = Modifier.isPublic(m.getModifiers());
            (isPublic ? open : hidden).add(m.getName());
            DUE.holds(m.getName() + " is public or private", isPublic || Modifier.isPrivate(m.getModifiers()));
        }
        DUE.is("public methods", open.size(), 23 - 1);
        for (Class<?> inside : HoseSpans.class.getDeclaredClasses()) {
            DUE.holds(inside.getName() + " is static", Modifier.isStatic(inside.getModifiers()));
            DUE.holds(inside.getName() + " has few fields", fieldsOf(inside) <= 20);
            Arrays.stream(inside.getDeclaredMethods()).filter(m -> Modifier.isPrivate(m.getModifiers()))
                .forEach(m -> hidden.add(m.getName()));
        }
        DUE.holds("few fields", fieldsOf(HoseSpans.class) <= 20);
        hidden.retainAll(open);
        DUE.is("private methods with a public one's name " + hidden, hidden.size(), 0);
        for (Field f : HoseSpans.class.getDeclaredFields()) {
            boolean isConstant = Set.of("NONE", "BAD", "NO", "FULL").contains(f.getName());
            DUE.holds(f.getName(), Modifier.isPublic(f.getModifiers()) == isConstant);
            DUE.holds(f.getName(), isConstant || Modifier.isPrivate(f.getModifiers()));
            DUE.holds(f.getName(), !Modifier.isStatic(f.getModifiers()) || Modifier.isFinal(f.getModifiers()));
        }
    }

    private static long fieldsOf(Class<?> c) {
        return Arrays.stream(c.getDeclaredFields()).filter(f -> !Modifier.isStatic(f.getModifiers())).count();
    }

    /** All that an object ever makes is made in its constructor. */
    private static void allocates() {
        DUE.part("room");
        Object bean = java.lang.management.ManagementFactory.getThreadMXBean();
        if (!(bean instanceof com.sun.management.ThreadMXBean threads)) {
            return;
        }
        Hoses[] kept = new Hoses[OBJECTS];
        callAll(new Hoses());
        long before = threads.getCurrentThreadAllocatedBytes();
        for (int n = 0; n < OBJECTS; n++) {
            kept[n] = new Hoses();
        }
        long each = (threads.getCurrentThreadAllocatedBytes() - before) / OBJECTS;
        DUE.holds("a new object is small, " + each + " bytes", each < 8000);
        before = threads.getCurrentThreadAllocatedBytes();
        for (Hoses x : kept) {
            for (int n = 0; n < ROUNDS; n++) {
                callAll(x);
            }
        }
        each = (threads.getCurrentThreadAllocatedBytes() - before) / OBJECTS / ROUNDS;
        DUE.holds("a round of all calls makes next to nothing, " + each + " bytes", each < 1000);
    }

    /** Any numbers in any state, beyond the 512th call too: what the calls answer then is free, but they do. */
    private static void neverThrows() {
        DUE.part("no call may ever throw");
        int[] some = {Integer.MIN_VALUE, -1, 0, 1, 2, 3, 5, 10, 11, 20, 30, 99, 120, Integer.MAX_VALUE};
        String bytes = "hkpxmc;;;0123456789-  ";
        Random random = new Random(7);
        for (int objects = 0; objects < OBJECTS; objects++) {
            HoseSpans x = new HoseSpans();
            int[] v = new int[5];
            int calls = 0;
            for (int n = 0; n < 2000; n++) {
                for (int i = 0; i < v.length; i++) {
                    v[i] = random.nextInt(3) > 0 ? random.nextInt(12) : some[random.nextInt(some.length)];
                }
                x.type(bytes.charAt(random.nextInt(bytes.length())));
                callOne(x, random.nextInt(22), v);
                calls++;
            }
            DUE.is("calls that ended", calls, 2000);
        }
    }

    private static void callOne(HoseSpans x, int which, int[] v) {
        switch (which) {
            case 0: case 1: case 2: x.span(v[0], v[1] % 4, v[2], v[3] % 2); break;
            case 3: x.cuts(); break;
            case 4: x.sets(v[0], v[1]); break;
            case 5: x.pumps(v[0]); break;
            case 6: x.bursts(v[0]); break;
            case 7: x.mends(v[0]); break;
            case 8: x.lays(); break;
            case 9: x.of(v[0], v[1]); break;
            case 10: x.loss(v[0], v[1]); break;
            case 11: x.node(v[0], v[1]); break;
            case 12: x.run(v[0]); break;
            case 13: x.fewest(v[0], v[1]); break;
            case 14: x.most(); break;
            case 15: x.count(v[0]); break;
            case 16: x.shuttle(v[0], v[1], v[2], v[3], v[4]); break;
            case 17: x.tanks(v[0], v[1], v[2], v[3], v[4]); break;
            case 18: x.type(v[0]); break;
            case 19: if (x.does() <= -10) x.clear(); break;
            case 20: x.back(); break;
            default: x.told(v[0]); x.digest(); break;
        }
    }

    private static void callAll(Hoses x) {
        x.span(3, 2, 1, 0);
        x.sets(2, 10);
        x.pumps(0);
        x.bursts(0);
        x.sets(5, 99);
        x.mends(0);
        x.lays();
        x.of(0, 0);
        x.loss(0, 10);
        x.fewest(10, 1);
        x.shuttle(3, 10, 5, 10, 5);
        x.tanks(100, 10, 5, 10, 5);
        x.clear();
        x.type('p');
        x.type('0');
        x.type(';');
        x.does();
        x.digest();
        x.back();
        x.cuts();
        x.told(9);
    }
}
