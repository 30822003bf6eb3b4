import java.lang.management.ManagementFactory;
import java.lang.reflect.Constructor;
import java.lang.reflect.Field;
import java.lang.reflect.Method;
import java.lang.reflect.Modifier;
import java.nio.file.Files;
import java.nio.file.Path;
import java.util.ArrayList;
import java.util.List;
import java.util.Map;
import java.util.Set;
import java.util.TreeMap;
import java.util.TreeSet;
import java.util.regex.Matcher;
import java.util.regex.Pattern;

// The public face, what of LANGUAGE.md can be seen from outside, and the room that calls take.
public final class FaceTests {
    private static final String[] FACE = {"say 1", "wipe 0", "fault 1", "lay 0", "law 3", "man 2", "on 1", "state 1",
        "judge 1", "play 0", "moves 1", "reach 1", "youth 2", "stands 0", "solve 1", "keys 2", "even 1", "book 0",
        "booked 2", "next 1", "drawn 2", "mirror 1", "like 0", "image 1", "restore 1", "told 1"};
    private static final String[] CONSTANTS = {"UNKNOWN -1", "OUTSIDE -2", "STATE -3", "FULL -4", "NO -5", "NONE -6"};
    private static final Path SOURCE = Path.of("src/main/java/AgingMen.java");
    private static int wrong = 0;

    private static void due(String what, Object got, Object want) {
        if (!got.equals(want)) {
            wrong++;
            System.out.println(what + " is " + got + ", due is " + want);
        }
    }

    private static void face() throws Exception {
        Class<?> c = AgingMen.class;
        due("public final", Modifier.isPublic(c.getModifiers()) && Modifier.isFinal(c.getModifiers()), true);
        Set<String> calls = new TreeSet<>();
        Set<String> names = new TreeSet<>();
        for (Method m : c.getDeclaredMethods()) {
            if (!Modifier.isPrivate(m.getModifiers())) {
                due(m + " public", Modifier.isPublic(m.getModifiers()) && !Modifier.isStatic(m.getModifiers()), true);
                due(m + " answers", m.getReturnType(), int.class);
                calls.add(m.getName() + " " + m.getParameterCount());
                names.add(m.getName());
                for (Class<?> p : m.getParameterTypes()) {
                    due(m + " takes", p, int.class);
                }
            }
        }
        due("calls", calls, new TreeSet<>(Set.of(FACE)));
        Set<String> constants = new TreeSet<>();
        for (Field f : c.getDeclaredFields()) {
            if (!Modifier.isPrivate(f.getModifiers())) {
                constants.add(f.getName() + " " + f.getInt(null));
            }
        }
        due("constants", constants, new TreeSet<>(Set.of(CONSTANTS)));
        due("constructors", c.getDeclaredConstructors().length, 1);
        for (Constructor<?> made : c.getDeclaredConstructors()) {
            due("constructor", Modifier.isPublic(made.getModifiers()) && made.getParameterCount() == 0, true);
        }
        inside(c, names);
    }

    private static void inside(Class<?> c, Set<String> names) {
        due("no more than twelve classes", c.getDeclaredClasses().length < 12, true);
        for (Class<?> inner : c.getDeclaredClasses()) {
            due(inner + " static", Modifier.isStatic(inner.getModifiers()), true);
            for (Method m : inner.getDeclaredMethods()) {
                due(m + " bears no public name", names.contains(m.getName()), false);
                due(m + " at most seven parameters", m.getParameterCount() <= 7, true);
            }
            for (Field f : inner.getDeclaredFields()) {
                boolean constant = Modifier.isFinal(f.getModifiers());
                due(f + " final if static", !Modifier.isStatic(f.getModifiers()) || constant, true);
            }
        }
    }

    private static void words() throws Exception {
        String text = Files.readString(SOURCE);
        String code = text.replaceAll("(?s)/\\*.*?\\*/", "").replaceAll("//[^\n]*", "");
        String[] ruledOut = {"throw", "throws", "try", "catch", "synchronized", "assert", "package", "Thread",
            "hashCode", "System\\.(?!arraycopy)", "\\w+Exact", "->", "::"};
        for (String word : ruledOut) {
            String pattern = Character.isLetter(word.charAt(0)) ? "\\b" + word : word;
            Matcher found = Pattern.compile(pattern + (word.matches("\\w+") ? "\\b" : "")).matcher(code);
            due("'" + word + "' stands in the code", found.find(), false);
        }
        for (char sign : text.toCharArray()) {
            if (sign > 126) {
                due("a sign of the text", (int) sign, "at most 126");
            }
        }
        lengths(text);
    }

    private static void lengths(String text) {
        int begun = -1;
        String[] lines = text.split("\n");
        for (int i = 0; i < lines.length; i++) {
            boolean opens = lines[i].matches(" {4}( {4})?[a-zA-Z].*\\) \\{") && !lines[i].contains(" class ");
            if (opens) {
                begun = i;
            }
            if (lines[i].matches(" {4}( {4})?\\}") && begun >= 0) {
                due("line " + (begun + 1) + " begins a short method", i - begun <= 60, true);
                begun = -1;
            }
        }
    }

    // Names that several classes use count as one method: a way found here may be longer than a real one, never shorter.
    private static Map<String, Set<String>> callsByName(String text) {
        String code = text.replaceAll("(?s)/\\*.*?\\*/", "").replaceAll("//[^\n]*", "");
        Map<String, StringBuilder> bodies = new TreeMap<>();
        Pattern head = Pattern.compile(" {4}(?: {4})?(?:[a-z]+ )*(\\w+)\\([^;]*\\) \\{");
        StringBuilder body = new StringBuilder();
        for (String line : code.split("\n")) {
            Matcher found = head.matcher(line);
            if (found.matches()) {
                body = bodies.computeIfAbsent(found.group(1), name -> new StringBuilder());
            } else {
                body.append(line).append('\n');
            }
        }
        Map<String, Set<String>> calls = new TreeMap<>();
        for (String name : bodies.keySet()) {
            Set<String> called = new TreeSet<>();
            Matcher found = Pattern.compile("\\b(\\w+)\\(").matcher(bodies.get(name));
            while (found.find()) {
                if (bodies.containsKey(found.group(1))) {
                    called.add(found.group(1));
                }
            }
            calls.put(name, called);
        }
        return calls;
    }

    private static int depthOf(String name, Map<String, Set<String>> calls, int guard) {
        int deepest = 0;
        for (String called : guard > 0 ? calls.get(name) : Set.<String>of()) {
            deepest = Math.max(deepest, depthOf(called, calls, guard - 1));
        }
        return 1 + deepest;
    }

    private static void depths() throws Exception {
        Map<String, Set<String>> calls = callsByName(Files.readString(SOURCE));
        due("methods were found in the text", calls.size() > FACE.length, true);
        for (String call : FACE) {
            String name = call.substring(0, call.indexOf(' '));
            due(name + " stands in the text", calls.containsKey(name), true);
            int depth = calls.containsKey(name) ? depthOf(name, calls, 12) : 0;
            due(name + " goes at most eight calls deep: " + depth, depth <= 8, true);
        }
    }

    private static long allocated() {
        com.sun.management.ThreadMXBean bean = (com.sun.management.ThreadMXBean) ManagementFactory.getThreadMXBean();
        return bean.getThreadAllocatedBytes(Thread.currentThread().getId());
    }

    private static int useAll(AgingMen x) {
        int sum = 0;
        for (char sign : "0a153e564c370".toCharArray()) {
            sum += x.say(sign);
        }
        sum += x.fault(0) + x.fault(1) + x.lay() + x.like() + x.judge(0) + x.play() + x.wipe();
        for (char sign : "0a153e564c37".toCharArray()) {
            sum += x.say(sign);
        }
        sum += x.like() + x.lay() + x.law(2, 5, 8) + x.man(0, 2) + x.on(0) + x.state(1) + x.moves(3) + x.reach(1);
        for (char sign : "a1b2".toCharArray()) {
            sum += x.say(sign);
        }
        sum += x.judge(1) + x.next(3) + x.youth(0, 1) + x.stands() + x.solve(2) + x.keys(2, 0) + x.even(0) + x.book();
        return sum + x.booked(0, 10) + x.drawn(77, 1) + x.mirror(1) + x.image(0) + x.restore(0) + x.told(1) + x.play();
    }

    // An object and all its calls take less than a hundredth of the room that a run has.
    private static void room() {
        List<AgingMen> warm = new ArrayList<>();
        for (int i = 0; i < 3; i++) {
            warm.add(new AgingMen());
            useAll(warm.get(i));
        }
        long before = allocated();
        AgingMen x = new AgingMen();
        long made = allocated() - before;
        due("a new object is small: " + made, made < 8000, true);
        useAll(x);
        long first = allocated();
        due("the first calls make the solver alone: " + (first - before), first - before < 600000, true);
        for (int i = 0; i < 7; i++) {
            useAll(x);
        }
        long later = allocated() - first;
        due("later calls make nothing: " + later, later < 20000, true);
    }

    public static void main(String[] args) throws Exception {
        face();
        words();
        depths();
        room();
        System.out.println(wrong == 0 ? "the face and the text are as due" : wrong + " things are not as due");
        if (wrong != 0) {
            System.exit(1);
        }
    }
}
