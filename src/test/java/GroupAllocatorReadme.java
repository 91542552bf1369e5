import java.io.IOException;
import java.lang.reflect.Method;
import java.nio.file.Files;
import java.nio.file.Path;
import java.util.Arrays;
import java.util.Map;
import java.util.Set;
import java.util.TreeSet;
import java.util.regex.MatchResult;
import java.util.regex.Matcher;
import java.util.regex.Pattern;

// The example in README.md: each call must answer what the comment behind it says.
public final class GroupAllocatorReadme {
    private static final Pattern MADE = Pattern.compile("GroupAllocator disk = new GroupAllocator\\((-?\\d+)\\);");
    private static final Pattern CALL = Pattern.compile("(?m)^disk\\.(\\w+)\\((.*)\\); +// (-?\\d+|[A-Z]+)\\b");
    private static final Map<String, Integer> NAMED =
        Map.of("BAD", GroupAllocator.BAD, "NONE", GroupAllocator.NONE);

    private static int wrong = 0;

    private static void check(String what, boolean holds) {
        if (!holds) {
            wrong++;
            System.out.println("README.md: " + what);
        }
    }

    private static Set<String> namesOfTheFace() {
        Set<String> names = new TreeSet<>();
        for (Method method : GroupAllocator.class.getMethods()) {
            if (method.getDeclaringClass() == GroupAllocator.class) {
                names.add(method.getName());
            }
        }
        return names;
    }

    private static int answerOf(GroupAllocator disk, String name, String arguments)
            throws ReflectiveOperationException {
        Object[] values = Arrays.stream(arguments.split(", *"))
            .filter(text -> !text.isEmpty()).map(Integer::valueOf).toArray();
        Class<?>[] types = new Class<?>[values.length];
        Arrays.fill(types, int.class);
        return (int) GroupAllocator.class.getMethod(name, types).invoke(disk, values);
    }

    private static int dueIn(String text) {
        return NAMED.containsKey(text) ? NAMED.get(text) : Integer.parseInt(text);
    }

    public static void main(String[] args) throws IOException, ReflectiveOperationException {
        String text = Files.readString(Path.of("README.md"));
        Set<String> unused = namesOfTheFace();
        Matcher made = MADE.matcher(text);
        boolean isMade = made.find();
        check("no object is made in the example", isMade);
        GroupAllocator disk = new GroupAllocator(isMade ? Integer.parseInt(made.group(1)) : 0);
        for (MatchResult call : CALL.matcher(text).results().toList()) {
            int got = answerOf(disk, call.group(1), call.group(2));
            check(call.group() + " .. answered " + got, got == dueIn(call.group(3)));
            unused.remove(call.group(1));
        }
        check("the example does not call " + unused, unused.isEmpty());
        check("a call of the example stands without its answer",
            CALL.matcher(text).results().count() == text.lines().filter(line -> line.startsWith("disk.")).count());
        System.out.println(wrong == 0 ? "the example is as due" : wrong + " things are not as due");
        if (wrong != 0) {
            System.exit(1);
        }
    }
}
