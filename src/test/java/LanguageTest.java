import java.io.IOException;
import java.lang.management.ManagementFactory;
import java.lang.reflect.Constructor;
import java.lang.reflect.Field;
import java.lang.reflect.Method;
import java.lang.reflect.Modifier;
import java.nio.file.Files;
import java.nio.file.Path;
import java.util.List;
import java.util.NoSuchElementException;
import java.util.Set;
import java.util.TreeSet;

/** The document's face and what of LANGUAGE.md can be told by looking: rules 1, 2, 5, 6, 11 and the room. */
public final class LanguageTest {
    private static final Check CHECK = new Check("LanguageTest");
    private static final Set<String> FACE = Set.of("feed(IIIII)I", "end(I)I", "system()I", "fault(I)I", "about(I)I", "rule(II)I",
        "goal(II)I", "at()I", "now(I)I", "can()I", "step(I)I", "run(II)I", "undo()Z", "cost()J", "way(I)I", "pops(III)J", "matters(I)J",
        "comes(II)J", "height()I", "rises(II)I", "lasts(II)I", "endless()I", "longest()J", "stuck()J", "machine(I)I", "next(III)I",
        "good(II)I", "stacks(II)J", "shortest(II)I", "same(II)I", "out(IZ)Z");

    public static void main(String[] args) throws IOException {
        face();
        classes();
        source();
        room();
        CHECK.close();
    }

    private static String signature(Method method) {
        return method.getName() + java.lang.invoke.MethodType.methodType(method.getReturnType(), method.getParameterTypes()).toMethodDescriptorString();
    }

    private static void face() {
        Set<String> open = new TreeSet<>();
        Set<String> names = new TreeSet<>();
        for (Method method : CallSteps.class.getDeclaredMethods()) {
            if (Modifier.isPublic(method.getModifiers())) {
                open.add(signature(method));
                names.add(method.getName());
                boolean throwing = Set.of("pops", "rises", "lasts").contains(method.getName());
                List<Class<?>> thrown = List.of(method.getExceptionTypes());
                CHECK.due("throws of " + method, thrown.equals(throwing ? List.of(NoSuchElementException.class) : List.of()), true);
            }
        }
        CHECK.due("face " + open, open.equals(FACE), true);
        for (Method method : CallSteps.class.getDeclaredMethods()) {
            boolean isPublic = Modifier.isPublic(method.getModifiers());
            CHECK.due("private " + method, isPublic || Modifier.isPrivate(method.getModifiers()), true);
            CHECK.due("name of " + method, isPublic || !names.contains(method.getName()), true);
        }
        for (Field field : CallSteps.class.getDeclaredFields()) {
            boolean isPublic = Modifier.isPublic(field.getModifiers());
            CHECK.due("field " + field, isPublic ? field.getName().equals("NONE") : Modifier.isPrivate(field.getModifiers()), true);
        }
        Constructor<?>[] constructors = CallSteps.class.getDeclaredConstructors();
        CHECK.due("constructors", constructors.length, 1);
        CHECK.due("without parameters", constructors[0].getParameterCount(), 0);
        CHECK.due("public and final", Modifier.isPublic(CallSteps.class.getModifiers()) && Modifier.isFinal(CallSteps.class.getModifiers()), true);
    }

    private static void classes() {
        Set<String> open = new TreeSet<>();
        for (Method method : CallSteps.class.getDeclaredMethods()) {
            if (Modifier.isPublic(method.getModifiers())) {
                open.add(method.getName());
            }
        }
        CHECK.due("classes", CallSteps.class.getDeclaredClasses().length < 12, true);
        for (Class<?> inside : CallSteps.class.getDeclaredClasses()) {
            int state = 0;
            for (Field field : inside.getDeclaredFields()) {
                boolean isStatic = Modifier.isStatic(field.getModifiers());
                state += isStatic ? 0 : 1;
                CHECK.due("static is final " + field, !isStatic || Modifier.isFinal(field.getModifiers()), true);
            }
            CHECK.due("fields of " + inside, state <= 20, true);
            CHECK.due("static " + inside, Modifier.isStatic(inside.getModifiers()), true);
            for (Method method : inside.getDeclaredMethods()) {
                CHECK.due("parameters of " + method, method.getParameterCount() <= 7, true);
                CHECK.due("name of " + method, open.contains(method.getName()), false);
            }
        }
    }

    private static void source() throws IOException {
        List<String> lines = Files.readAllLines(Path.of("src/main/java/CallSteps.java"));
        int start = 0;
        for (int i = 0; i < lines.size(); i++) {
            String line = lines.get(i);
            for (String word : new String[] {"->", "::", "Exact", "catch", "finally", "synchronized", "assert ", "StringBuilder", "System."}) {
                CHECK.due("line " + (i + 1) + " has " + word, line.contains(word), false);
            }
            if (line.matches(" {4,8}[^ */].*\\) (throws \\w+ )?\\{")) {
                start = i;
            }
            if (line.matches(" {4,8}\\}")) {
                CHECK.due("lines up to " + (i + 1), i - start < 60 || line.matches(" {4}\\}"), true);
            }
        }
    }

    /** What the dearest calls make is far below the room of 7.3 million fields and elements (eight bytes each here). */
    private static void room() {
        com.sun.management.ThreadMXBean threads = (com.sun.management.ThreadMXBean) ManagementFactory.getThreadMXBean();
        long self = Thread.currentThread().getId();
        String text = "state p;state q;state r;state s;state t;sign a;sign b;sign c;sign d;sign e;sign f;"
            + "rule q c to s d d;rule p c to t;rule p f to s;rule t d to s;rule t f to p;rule p d to q;rule t c to r;rule s c to s;"
            + "rule q c to p;rule s d to t c;rule q d to t;rule r c to q;rule q f to r;rule r c to p;"
            + "goal r d c f;goal r f d d;goal s f d b;goal r d d c;";
        Check.made(text).machine(0);
        long before = threads.getThreadAllocatedBytes(self);
        CallSteps x = Check.made(text, "p f d c f");
        for (int i = 0; i < 38; i++) {
            x.out(i % 14, i % 3 == 0);
            x.machine(i % 5);
            x.same(0, 1);
            x.stacks(1, 12);
            x.shortest(2, -1);
            x.cost();
            x.way(-1);
            x.matters(i % 14);
            x.longest();
            x.height();
            x.comes(0, 0);
            x.run(i, 50);
        }
        long bytes = threads.getThreadAllocatedBytes(self) - before;
        CHECK.due("room: " + bytes + " bytes", bytes < 400_000, true);
    }
}
