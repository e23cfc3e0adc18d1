import java.io.IOException;
import java.lang.reflect.InvocationTargetException;
import java.lang.reflect.Method;
import java.lang.reflect.Modifier;
import java.nio.file.Files;
import java.nio.file.Path;
import java.util.List;
import java.util.Set;
import java.util.TreeSet;
import java.util.regex.Matcher;
import java.util.regex.Pattern;
import java.util.stream.Collectors;
import java.util.stream.Stream;

/** What README.md says is so: its examples are called line by line, and what it names is there. */
public final class ReadmeTest {
    private static final Pattern BLOCK = Pattern.compile("(?s)```java\n(.*?)```");
    private static final Pattern MADE = Pattern.compile("TramGod god = new TramGod\\(\\);.*");
    private static final Pattern SAID = Pattern.compile("for \\(char sign : \"([^\"]*)\"\\.toCharArray\\(\\)\\) god\\.say\\(sign\\);.*");
    private static final Pattern CALLED = Pattern.compile("god\\.(\\w+)\\(([^)]*)\\); +// (-?\\d+)(: (.*))?");
    private static final Pattern REFUSAL = Pattern.compile("(UNKNOWN|OUTSIDE|STATE|FULL|NO|NONE)\\b.*");
    private static final Pattern IN_TICKS = Pattern.compile("`([^`\n]+)`");

    private static int checks = 0;
    private static int wrong = 0;

    private static void look(boolean right, String what) {
        checks++;
        if (!right) {
            wrong++;
            System.out.println(what);
        }
    }

    private static void examples(String page) throws ReflectiveOperationException {
        Matcher block = BLOCK.matcher(page);
        int blocks = 0;
        while (block.find()) {
            TramGod god = null;
            for (String line : block.group(1).split("\n")) {
                god = MADE.matcher(line).matches() ? new TramGod() : god;
                look(god != null, "no object is made ahead of: " + line);
                if (god != null && !MADE.matcher(line).matches()) example(god, line);
            }
            blocks++;
        }
        look(blocks > 0, "there is no example");
    }

    private static void example(TramGod god, String line) throws ReflectiveOperationException {
        Matcher said = SAID.matcher(line);
        if (said.matches()) {
            for (char sign : said.group(1).toCharArray()) look(god.say(sign) > 0, "refused: " + line);
            return;
        }
        Matcher called = CALLED.matcher(line);
        look(called.matches(), "not understood: " + line);
        if (!called.matches()) return;
        long want = Long.parseLong(called.group(3));
        long got = call(god, called.group(1), called.group(2));
        look(got == want, line + " answered " + got);
        Matcher named = REFUSAL.matcher(called.group(5) == null ? "" : called.group(5));
        if (named.matches()) {
            look(TramGod.class.getField(named.group(1)).getInt(null) == want, "another name is due: " + line);
        }
    }

    private static long call(TramGod god, String name, String told) throws ReflectiveOperationException {
        String[] texts = told.isEmpty() ? new String[0] : told.split(", *");
        for (Method m : TramGod.class.getDeclaredMethods()) {
            if (m.getName().equals(name) && m.getParameterCount() == texts.length) {
                Object[] arguments = new Object[texts.length];
                for (int i = 0; i < texts.length; i++) {
                    boolean flag = m.getParameterTypes()[i] == boolean.class;
                    arguments[i] = flag ? (Object) Boolean.valueOf(texts[i]) : (Object) Integer.valueOf(texts[i]);
                }
                return answer(m, god, arguments);
            }
        }
        throw new NoSuchMethodException(name);
    }

    private static long answer(Method m, TramGod god, Object[] arguments) throws IllegalAccessException {
        try {
            return ((Number) m.invoke(god, arguments)).longValue();
        } catch (InvocationTargetException e) {
            throw new IllegalStateException(m.getName() + " threw", e.getCause());
        }
    }

    /** The table names each call of the face, and no other. */
    private static void calls(String page) {
        Set<String> told = new TreeSet<>();
        for (String row : page.split("\n")) {
            if (row.startsWith("|")) {
                Matcher name = IN_TICKS.matcher(row);
                while (name.find()) told.add(name.group(1));
            }
        }
        Set<String> face = new TreeSet<>();
        for (Method m : TramGod.class.getDeclaredMethods()) {
            if (Modifier.isPublic(m.getModifiers())) face.add(m.getName());
        }
        look(told.equals(face), "the table names " + told + ", the face has " + face);
    }

    private static void tests(String page) throws IOException {
        Set<String> told = new TreeSet<>();
        Matcher name = Pattern.compile("`(\\w+Test)`").matcher(page);
        while (name.find()) told.add(name.group(1) + ".java");
        try (Stream<Path> files = Files.list(Path.of("src/test/java"))) {
            Set<String> there = files.map(f -> f.getFileName().toString()).collect(Collectors.toCollection(TreeSet::new));
            look(told.equals(there), "the page names " + told + ", there are " + there);
        }
    }

    /** Each file and directory that the page names is there, in the text and in the commands. */
    private static void files(String page) {
        Matcher path = Pattern.compile("(?<![\\w/.])((\\.\\./|src/|\\.ci/)[\\w./]*\\w)").matcher(page);
        int found = 0;
        while (path.find()) {
            look(Files.exists(Path.of(path.group(1))), "is not there: " + path.group(1));
            found++;
        }
        look(found > 5, "no files are named");
        look(Files.isExecutable(Path.of(".ci/run")), ".ci/run can not be run");
    }

    public static void main(String[] args) throws IOException, ReflectiveOperationException {
        String page = Files.readString(Path.of("README.md"));
        examples(page);
        String text = BLOCK.matcher(page).replaceAll("");
        calls(text);
        tests(text);
        files(text);
        for (String refusal : List.of("UNKNOWN", "OUTSIDE", "NO", "STATE", "FULL", "NONE", "GONE")) {
            look(text.contains("`" + refusal + "`"), "not named: " + refusal);
        }
        System.out.println(checks + " things of README.md looked at, " + wrong + " not so");
        if (wrong != 0) System.exit(1);
    }
}
