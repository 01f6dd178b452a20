import java.lang.management.ManagementFactory;
import java.lang.reflect.Constructor;
import java.lang.reflect.Field;
import java.lang.reflect.Member;
import java.lang.reflect.Method;
import java.lang.reflect.Modifier;
import java.nio.file.Files;
import java.nio.file.Path;
import java.util.Arrays;
import java.util.HashSet;
import java.util.List;
import java.util.Set;
import java.util.TreeSet;

/** The face as the document has it, and what of LANGUAGE.md can be seen from outside. The argument: HeatDown.java. */
public final class FaceTests {
    private static final Check CHECK = new Check("face");

    private static final List<String> METHODS = List.of(
        "spring 2", "kind 3", "say 1", "wipe 0", "fault 1", "lane 0", "house 2", "at 5", "run 4", "judge 1",
        "best 2", "moss 3", "cools 3", "put 3", "where 3", "order 2", "felt 3", "forget 0", "fits 3", "door 3",
        "winter 3", "image 1", "restore 1", "told 1");

    private static final List<String> RULED_OUT = List.of(
        "import ", "package ", "->", "::", "assert ", "synchronized", "finally", "catch", "throw", "System.",
        "Thread", "Random", "Object", "hashCode", "equals(", "toString", "float ", "double ", "while (true)",
        "instanceof", "Exact(");

    public static void main(String[] args) throws Exception {
        constants();
        methods();
        classesInside();
        manyCalls();
        noObjects();
        if (args.length > 0) {
            source(Files.readString(Path.of(args[0])));
        }
        CHECK.end();
    }

    private static void constants() throws Exception {
        String[] names = {"NONE", "UNKNOWN", "OUTSIDE", "STATE", "FULL", "NO"};
        int[] values = {-6, -1, -2, -3, -4, -5};
        for (int i = 0; i < names.length; i++) {
            Field field = HeatDown.class.getField(names[i]);
            CHECK.due(names[i], field.getInt(null), values[i]);
            CHECK.holds(names[i] + " is final", Modifier.isFinal(field.getModifiers()));
        }
        CHECK.due("public fields", HeatDown.class.getFields().length, names.length);
    }

    private static void methods() {
        int flags = HeatDown.class.getModifiers();
        CHECK.holds("public and final", Modifier.isPublic(flags) && Modifier.isFinal(flags));
        Constructor<?>[] made = HeatDown.class.getDeclaredConstructors();
        CHECK.due("constructors", made.length, 1);
        CHECK.holds("HeatDown()", Modifier.isPublic(made[0].getModifiers()) && made[0].getParameterCount() == 0);
        Set<String> seen = new TreeSet<>();
        Set<String> faceNames = new HashSet<>();
        for (Method m : HeatDown.class.getDeclaredMethods()) {
            if (Modifier.isPublic(m.getModifiers())) {
                seen.add(m.getName() + " " + m.getParameterCount());
                faceNames.add(m.getName());
                CHECK.holds(m.getName() + " answers int", m.getReturnType() == int.class);
            }
        }
        CHECK.holds("the methods of the document: " + seen, seen.equals(new TreeSet<>(METHODS)));
        for (Method m : HeatDown.class.getDeclaredMethods()) {
            boolean isPrivate = Modifier.isPrivate(m.getModifiers());
            CHECK.holds(m.getName() + " is public or private", isPrivate || Modifier.isPublic(m.getModifiers()));
            CHECK.holds(m.getName() + " is no name of the face", !isPrivate || !faceNames.contains(m.getName()));
            CHECK.holds(m.getName() + " takes at most seven", m.getParameterCount() <= 7);
        }
        for (Field f : HeatDown.class.getDeclaredFields()) {
            int how = f.getModifiers();
            CHECK.holds(f.getName() + " is public or private", Modifier.isPublic(how) || Modifier.isPrivate(how));
            CHECK.holds(f.getName() + " is final if static", !Modifier.isStatic(how) || Modifier.isFinal(how));
        }
        CHECK.holds("at most some twenty fields",
            Arrays.stream(HeatDown.class.getDeclaredFields()).filter(FaceTests::isOwn).count() <= 20);
    }

    private static void classesInside() {
        Class<?>[] inside = HeatDown.class.getDeclaredClasses();
        CHECK.holds("at most some twelve classes", inside.length < 12);
        for (Class<?> c : inside) {
            CHECK.holds(c.getName() + " is static", Modifier.isStatic(c.getModifiers()));
            CHECK.holds(c.getName() + " is not public", !Modifier.isPublic(c.getModifiers()));
            CHECK.holds(c.getName() + " has at most some twenty fields",
                Arrays.stream(c.getDeclaredFields()).filter(FaceTests::isOwn).count() <= 20);
            for (Method m : c.getDeclaredMethods()) {
                CHECK.holds(c.getName() + "." + m.getName() + " is no name of the face",
                    METHODS.stream().noneMatch(f -> f.startsWith(m.getName() + " ")));
                CHECK.holds(m.getName() + " takes at most seven", m.getParameterCount() <= 7);
            }
        }
    }

    private static boolean isOwn(Member member) {
        return !Modifier.isStatic(member.getModifiers());
    }

    /** The dearest calls, as often as an object may be used. */
    private static void manyCalls() {
        HeatDown x = Check.withLane("4l7h7r7h7*h4*b3*c4*d");
        x.kind(4, 1, 900);
        x.kind(3, 1, 900);
        int worth = x.moss(0, 8, 1);
        for (int i = 0; i < 512 - 24; i++) {
            CHECK.due("moss again", x.moss(0, 8, 1), worth);
        }
    }

    /** 600,000 objects are room for all calls of a run only if calls make none. */
    private static void noObjects() {
        if (!(ManagementFactory.getThreadMXBean() instanceof com.sun.management.ThreadMXBean counter)) {
            return;
        }
        HeatDown x = Check.withLane("4l7h7r7*h4*b3*c4*d");
        x.kind(4, 1, 900);
        long thread = Thread.currentThread().getId();
        counter.getThreadAllocatedBytes(thread);
        long before = counter.getThreadAllocatedBytes(thread);
        int sum = 0;
        for (int i = 0; i < 15; i++) {
            sum += x.spring(1, 700 + i) + x.kind(0, 3, i) + x.say('*') + x.fault(0) + x.fault(1) + x.lane() + x.wipe();
            sum += x.house(0, 0) + x.at(0, 0, 0, 0, 0) + x.run(0, 0, 0, 0) + x.judge(0) + x.best(0, 0) + x.moss(0, 8, 0);
            sum += x.cools(0, 0, 1) + x.put(0, 0, 0) + x.where(0, 0, 0) + x.order(0, 0) + x.felt(0, 0, 1000) + x.forget();
            sum += x.fits(0, 0, 0) + x.door(0, 0, 0) + x.winter(i, 3, 0) + x.image(0) + x.restore(0) + x.told(0);
        }
        long made = counter.getThreadAllocatedBytes(thread) - before;
        CHECK.holds("375 calls made " + made + " bytes of objects (their sum: " + sum + ")", made < 2000);
    }

    /** Methods of some sixty lines, by their first line and the brace that stands below it. */
    private static void methodLengths(String[] lines) {
        for (int i = 0; i < lines.length; i++) {
            String indent = lines[i].substring(0, lines[i].length() - lines[i].stripLeading().length());
            if (!lines[i].matches(" +[a-z][A-Za-z\\[\\] ]* [a-zA-Z]+\\(.*\\) \\{") || indent.length() > 8) {
                continue;
            }
            int end = i;
            while (end < lines.length && !lines[end].equals(indent + "}")) {
                end++;
            }
            CHECK.holds("at most some sixty lines: " + lines[i].strip(), end - i < 60);
        }
    }

    private static void source(String text) {
        methodLengths(text.split("\n"));
        StringBuilder code = new StringBuilder();
        for (String line : text.split("\n")) {
            String bare = line.strip();
            if (!bare.startsWith("/**") && !bare.startsWith("*") && !bare.startsWith("//")) {
                code.append(line).append('\n');
            }
        }
        for (String word : RULED_OUT) {
            CHECK.holds("no '" + word + "' in the code", code.indexOf(word) < 0);
        }
        CHECK.holds("texts of signs 1 to 127", text.chars().allMatch(c -> c > 0 && c < 128));
    }
}
