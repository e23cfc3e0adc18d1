import java.io.IOException;
import java.lang.reflect.Constructor;
import java.lang.reflect.Field;
import java.lang.reflect.InvocationTargetException;
import java.lang.reflect.Method;
import java.lang.reflect.Modifier;
import java.nio.file.Files;
import java.nio.file.Path;
import java.util.Arrays;
import java.util.Comparator;
import java.util.Random;
import java.util.Set;
import java.util.TreeSet;
import java.util.regex.Matcher;
import java.util.regex.Pattern;

/** The public face, what LANGUAGE.md rules out and can be read off the source, the room that calls take, any arguments. */
public final class FaceTest {
    private static final String[] METHODS = {
        "int say(int)", "int wipe()", "int fault(int)", "int line()", "int close(int,boolean)",
        "int person(int,int,int,int,int,int)", "int leave(int)", "int nights(int,int)", "int set(int,int)",
        "int judge(int)", "int riders()", "int good(int)", "int leaves(int)", "int vain()", "int best(int)",
        "int worth()", "int meant(int,int,int)", "int bars(int,int)", "int fund(int,int,int)", "int rival(int)",
        "int closing(int,int)", "int seen(int,int)", "int forget()", "int held(int,int)",
        "long runs(int,int,int,int)", "long mean(int,int,int)", "int waits(int,int,int,int,int)",
        "int year(int,int,int)", "int image(int)", "int restore(int)", "int told(int)"};
    private static final String[] CONSTANTS = {
        "int UNKNOWN=-1", "int OUTSIDE=-2", "int STATE=-3", "int FULL=-4", "int NO=-5", "int NONE=-6",
        "long GONE=-1000000000000000000"};
    private static final String[] RULED_OUT = {
        "\\bthrow\\b", "\\btry\\b", "\\bcatch\\b", "\\bfinally\\b", "\\bsynchronized\\b", "\\bassert\\b", "->", "::",
        "Exact\\b", "\\bimport\\b", "\\bpackage\\b", "\\bprotected\\b", "static\\s*\\{", "@Override", "\\bSystem\\.(?!arraycopy)"};

    /** What the class uses of rule 4's library; another function of it is added here when it is used. */
    private static final Set<String> LIBRARY = Set.of("Integer.bitCount", "Math.abs", "Math.max", "Math.min", "System.arraycopy");

    private static int wrong = 0;

    private static void look(boolean right, String what) {
        if (!right) {
            wrong++;
            System.out.println(what);
        }
    }

    private static String parameters(Class<?>[] types) {
        StringBuilder text = new StringBuilder();
        for (Class<?> t : types) text.append(text.length() == 0 ? "" : ",").append(t.getName());
        return text.toString();
    }

    private static void face() throws IllegalAccessException {
        Set<String> shown = new TreeSet<>();
        Set<String> names = new TreeSet<>();
        Set<String> hidden = new TreeSet<>();
        for (Method m : TramGod.class.getDeclaredMethods()) {
            if (Modifier.isPublic(m.getModifiers())) {
                shown.add(m.getReturnType().getName() + " " + m.getName() + "(" + parameters(m.getParameterTypes()) + ")");
                names.add(m.getName());
            } else {
                look(Modifier.isPrivate(m.getModifiers()), "not private: " + m);
                look(m.getParameterCount() <= 7, "too many parameters: " + m);
                hidden.add(m.getName());
            }
        }
        hidden.retainAll(names);
        look(hidden.isEmpty(), "private ones bear a public one's name: " + hidden);
        look(shown.equals(new TreeSet<>(Set.of(METHODS))), "the public methods are " + shown);
        Set<String> constants = new TreeSet<>();
        for (Field f : TramGod.class.getDeclaredFields()) {
            if (Modifier.isPublic(f.getModifiers())) {
                look(Modifier.isStatic(f.getModifiers()) && Modifier.isFinal(f.getModifiers()), "no constant: " + f);
                constants.add(f.getType().getName() + " " + f.getName() + "=" + f.get(null));
            } else {
                look(Modifier.isPrivate(f.getModifiers()), "not private: " + f);
                look(!Modifier.isStatic(f.getModifiers()) || Modifier.isFinal(f.getModifiers()), "static state: " + f);
            }
        }
        look(constants.equals(new TreeSet<>(Set.of(CONSTANTS))), "the constants are " + constants);
        Constructor<?>[] made = TramGod.class.getDeclaredConstructors();
        look(made.length == 1 && Modifier.isPublic(made[0].getModifiers()) && made[0].getParameterCount() == 0, "the constructor");
        look(Modifier.isFinal(TramGod.class.getModifiers()), "the class is not final");
        inside(names);
    }

    /** The face that the document prints is the one that is looked for. */
    private static void printedFace() throws IOException {
        Matcher block = Pattern.compile("(?s)```java\n(.*?)```").matcher(Files.readString(Path.of("../shared/DOC.md")));
        String printed = block.find() ? block.group(1) : "";
        Set<String> methods = new TreeSet<>();
        Matcher m = Pattern.compile("public (int|long) (\\w+)\\(([^)]*)\\);").matcher(printed);
        while (m.find()) {
            methods.add(m.group(1) + " " + m.group(2) + "(" + m.group(3).replaceAll(" \\w+(?=,|$)", "").replace(" ", "") + ")");
        }
        look(methods.equals(new TreeSet<>(Set.of(METHODS))), "the document prints " + methods);
        Set<String> constants = new TreeSet<>();
        m = Pattern.compile("public static final (int|long) ([^;]*);").matcher(printed);
        while (m.find()) {
            for (String one : m.group(2).split(",")) constants.add(m.group(1) + " " + one.replace(" ", "").replaceAll("(?<=\\d)L$", ""));
        }
        look(constants.equals(new TreeSet<>(Set.of(CONSTANTS))), "the document prints " + constants);
    }

    private static void inside(Set<String> names) {
        Class<?>[] classes = TramGod.class.getDeclaredClasses();
        look(classes.length <= 12, "too many classes");
        for (Class<?> c : classes) {
            look(Modifier.isStatic(c.getModifiers()), "not static: " + c);
            int fields = 0;
            for (Field f : c.getDeclaredFields()) {
                fields += Modifier.isStatic(f.getModifiers()) ? 0 : 1;
                look(!Modifier.isStatic(f.getModifiers()) || Modifier.isFinal(f.getModifiers()), "static state: " + f);
            }
            look(fields <= 20, "too many fields: " + c);
            for (Method m : c.getDeclaredMethods()) {
                look(!names.contains(m.getName()), "bears a public one's name: " + m);
                look(m.getParameterCount() <= 7, "too many parameters: " + m);
            }
        }
    }

    private static void source() throws IOException {
        String text = Files.readString(Path.of("src/main/java/TramGod.java"));
        String code = text.replaceAll("(?s)/\\*.*?\\*/", "").replaceAll("//[^\n]*", "");
        for (String out : RULED_OUT) {
            Matcher m = Pattern.compile(out).matcher(code);
            look(!m.find(), "ruled out: " + out);
        }
        Matcher library = Pattern.compile("\\b([A-Z][A-Za-z]*\\.\\w+)").matcher(code);
        while (library.find()) look(LIBRARY.contains(library.group(1)), "not of the library that is used: " + library.group(1));
        look(text.chars().allMatch(c -> c < 128), "a sign above 127");
        int from = 0;
        String[] lines = text.split("\n");
        for (int i = 0; i < lines.length; i++) {
            if (lines[i].matches(" {4,8}(public|private|static|boolean|int|long|void)?.*\\) \\{")) from = i;
            if (lines[i].matches(" {4,8}\\}")) look(i - from <= 60, "a long method ends at line " + (i + 1));
        }
    }

    /** After the constructor no call may make an object: all calls of a run share one room. */
    private static void room() {
        com.sun.management.ThreadMXBean bean =
            (com.sun.management.ThreadMXBean) java.lang.management.ManagementFactory.getThreadMXBean();
        TramGod x = new TramGod();
        callAll(x);
        long me = Thread.currentThread().getId();
        long before = bean.getThreadAllocatedBytes(me);
        for (int i = 0; i < 200; i++) callAll(x);
        long bytes = bean.getThreadAllocatedBytes(me) - before;
        look(bytes < 20000, "calls took " + bytes + " bytes");
        before = bean.getThreadAllocatedBytes(me);
        for (int i = 0; i < 100; i++) x = new TramGod();
        bytes = (bean.getThreadAllocatedBytes(me) - before) / 100;
        look(x != null && bytes < 16000, "a new object took " + bytes + " bytes");
    }

    private static void callAll(TramGod x) {
        x.wipe();
        for (int i = 0; i < 6; i++) x.say('4');
        x.line();
        for (int p = 0; p < 8; p++) x.person(p, p % 6, 4 * (p % 6) + p, p, 4 - p, p % 3);
        x.set(0, 5);
        for (int i = 0; i < 6; i++) x.say(i < 5 ? '1' : '0');
        x.seen(0, 1);
        x.nights(0, 3);
        x.fault(0);
        x.close(1, true);
        x.judge(0);
        x.riders();
        x.good(0);
        x.leaves(2);
        x.vain();
        x.best(0);
        x.worth();
        x.meant(1, 2, 0);
        x.bars(1, 2);
        x.fund(40, 7, 6);
        x.rival(2);
        x.closing(3, 1);
        x.held(0, 1);
        x.held(-1, 0);
        x.runs(0, 1, 1, 1);
        x.mean(1, 1, 1);
        x.waits(0, 1, 1, 1, 2);
        x.year(77, 99, 0);
        x.image(0);
        x.restore(0);
        x.told(20);
        x.leave(0);
        x.forget();
    }

    /** Rule 7: no call throws or fails to end, for any arguments in any state; an object may be asked on and on. */
    private static void anyArguments() throws IllegalAccessException {
        Random draw = new Random(6);
        Method[] methods = TramGod.class.getDeclaredMethods();
        Arrays.sort(methods, Comparator.comparing(Method::toString));
        for (int run = 0; run < 200; run++) {
            TramGod x = new TramGod();
            for (int call = 0; call < 1500; call++) {
                Method m = methods[draw.nextInt(methods.length)];
                if (Modifier.isPublic(m.getModifiers())) callOnce(x, m, draw);
            }
        }
    }

    private static void callOnce(TramGod x, Method m, Random draw) throws IllegalAccessException {
        Object[] arguments = new Object[m.getParameterCount()];
        for (int i = 0; i < arguments.length; i++) {
            boolean flag = m.getParameterTypes()[i] == boolean.class;
            arguments[i] = flag ? (Object) draw.nextBoolean() : (Object) anyNumber(m.getName(), draw);
        }
        try {
            m.invoke(x, arguments);
        } catch (InvocationTargetException e) {
            look(false, m.getName() + Arrays.toString(arguments) + " threw " + e.getCause());
        }
    }

    private static int anyNumber(String name, Random draw) {
        switch (draw.nextInt(16)) {
            case 0: return draw.nextInt();
            case 1: return Integer.MIN_VALUE + draw.nextInt(3);
            case 2: return Integer.MAX_VALUE - draw.nextInt(3);
            case 3: return 1 << draw.nextInt(32);
            case 4: return draw.nextInt(300) - 100;
            default: return name.equals("say") ? '0' + draw.nextInt(3) : draw.nextInt(11) - 1;
        }
    }

    public static void main(String[] args) throws IOException, IllegalAccessException {
        face();
        printedFace();
        source();
        room();
        anyArguments();
        System.out.println(wrong == 0 ? "the face is as told" : wrong + " things are not as told");
        if (wrong != 0) System.exit(1);
    }
}
