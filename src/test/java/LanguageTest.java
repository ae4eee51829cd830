import java.io.IOException;
import java.lang.reflect.Field;
import java.lang.reflect.Method;
import java.lang.reflect.Modifier;
import java.nio.file.Files;
import java.nio.file.Path;
import java.util.Arrays;
import java.util.Set;
import java.util.TreeSet;
import java.util.regex.Matcher;
import java.util.regex.Pattern;

/** Rules of LANGUAGE.md that can be seen in the file or in the face of the class; run from the project's folder. */
public final class LanguageTest {
    private static final Due DUE = new Due("LanguageTest");
    private static final String[] RULED_OUT = {"throw", "throws", "try", "catch", "finally", "synchronized", "assert",
        "package", "native", "volatile", "transient", "instanceof", "Exact", "->", "::", "@"};
    private static final Set<String> CALLED_ON = Set.of("Arrays.fill", "Math.max", "Math.min", "Integer.bitCount",
        "System.arraycopy");

    private LanguageTest() {
    }

    public static void main(String[] args) throws IOException {
        String source = Files.readString(Path.of("src/main/java/HoseSpans.java"));
        words(source.replaceAll("(?s)/\\*.*?\\*/", "").replaceAll("//.*", ""));
        face();
        allocates();
        DUE.end();
    }

    private static void words(String code) {
        DUE.part("words");
        for (String word : RULED_OUT) {
            String edge = Character.isLetter(word.charAt(0)) ? "\\b" : "";
            DUE.holds("no " + word, !Pattern.compile(edge + Pattern.quote(word) + edge).matcher(code).find());
        }
        Matcher call = Pattern.compile("\\b([A-Z][a-z]\\w*\\.[a-z]\\w*)\\(").matcher(code);
        while (call.find()) {
            DUE.holds(call.group(1) + " may be called", CALLED_ON.contains(call.group(1)));
        }
        Matcher inside = Pattern.compile("\\b(class|record|enum|interface) ").matcher(code);
        int classes = 0;
        while (inside.find()) {
            classes++;
        }
        DUE.holds("twelve classes or fewer", classes <= 12);
        Matcher imported = Pattern.compile("import ([^;]*);").matcher(code);
        while (imported.find()) {
            DUE.holds("import of " + imported.group(1), imported.group(1).equals("java.util.Arrays"));
        }
    }

    private static void face() {
        DUE.part("face");
        Set<String> open = new TreeSet<>();
        Set<String> hidden = new TreeSet<>();
        for (Method m : HoseSpans.class.getDeclaredMethods()) {
            boolean isPublic = Modifier.isPublic(m.getModifiers());
            (isPublic ? open : hidden).add(m.getName());
            DUE.holds(m.getName() + " is public or private", isPublic || Modifier.isPrivate(m.getModifiers()));
        }
        DUE.is("public methods", open.size(), 23 - 1);
        for (Class<?> inside : HoseSpans.class.getDeclaredClasses()) {
            DUE.holds(inside.getName() + " is static", Modifier.isStatic(inside.getModifiers()));
            DUE.holds(inside.getName() + " has few fields", fieldsOf(inside) <= 20);
            Arrays.stream(inside.getDeclaredMethods()).forEach(m -> hidden.add(m.getName()));
        }
        DUE.holds("few fields", fieldsOf(HoseSpans.class) <= 20);
        hidden.retainAll(open);
        DUE.is("methods inside with a public one's name " + hidden, hidden.size(), 0);
        for (Field f : HoseSpans.class.getDeclaredFields()) {
            boolean isConstant = Set.of("NONE", "BAD", "NO", "FULL").contains(f.getName());
            DUE.holds(f.getName(), Modifier.isPublic(f.getModifiers()) == isConstant);
            DUE.holds(f.getName(), isConstant || Modifier.isPrivate(f.getModifiers()));
            DUE.holds(f.getName(), !Modifier.isStatic(f.getModifiers()) || Modifier.isFinal(f.getModifiers()));
        }
    }

    private static long fieldsOf(Class<?> c) {
        return Arrays.stream(c.getDeclaredFields()).filter(f -> !Modifier.isStatic(f.getModifiers())).count();
    }

    /** All that an object ever makes is made in its constructor. */
    private static void allocates() {
        DUE.part("room");
        Object bean = java.lang.management.ManagementFactory.getThreadMXBean();
        if (!(bean instanceof com.sun.management.ThreadMXBean threads)) {
            return;
        }
        HoseSpans x = new HoseSpans();
        callAll(x);
        long before = threads.getCurrentThreadAllocatedBytes();
        for (int n = 0; n < 1000; n++) {
            callAll(x);
        }
        long each = (threads.getCurrentThreadAllocatedBytes() - before) / 1000;
        DUE.holds("a thousand rounds of all calls make next to nothing, each " + each, each < 100);
        HoseSpans[] kept = new HoseSpans[100];
        before = threads.getCurrentThreadAllocatedBytes();
        for (int n = 0; n < kept.length; n++) {
            kept[n] = new HoseSpans();
        }
        each = (threads.getCurrentThreadAllocatedBytes() - before) / kept.length;
        DUE.holds("a new object is small, " + each + " bytes", each < 8000);
    }

    private static void callAll(HoseSpans x) {
        x.span(3, 2, 1, 0);
        x.sets(2, 10);
        x.pumps(0);
        x.bursts(0);
        x.sets(5, 99);
        x.mends(0);
        x.lays();
        x.of(0, 0);
        x.loss(0, 10);
        x.fewest(10, 1);
        x.shuttle(3, 10, 5, 10, 5);
        x.tanks(100, 10, 5, 10, 5);
        x.clear();
        x.type('p');
        x.type('0');
        x.type(';');
        x.does();
        x.digest();
        x.back();
        x.cuts();
        x.told(9);
    }
}
