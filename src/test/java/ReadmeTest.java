import java.io.IOException;
import java.lang.reflect.Field;
import java.lang.reflect.Method;
import java.nio.file.Files;
import java.nio.file.Path;
import java.util.ArrayList;
import java.util.Arrays;
import java.util.List;
import java.util.regex.Matcher;
import java.util.regex.Pattern;

/** What README.md says of answers, refusals and faults is so; it is run from the project's root. */
public final class ReadmeTest {
    private static final Check check = new Check("ReadmeTest");

    public static void main(String[] args) throws IOException, ReflectiveOperationException {
        String page = Files.readString(Path.of("README.md"));
        examples(page);
        faults(page);
        refusals(page);
        everyCallIsNamed(page);
        everyTestIsNamed(page);
        check.isTrue("the command that runs the tests", page.contains("```sh\n.ci/run\n```") && Files.isExecutable(Path.of(".ci/run")));
        check.end();
    }

    /** Each line of the example that makes a call is made in turn, and tells its answer first in its remark. */
    private static void examples(String page) throws ReflectiveOperationException {
        Matcher block = Pattern.compile("(?s)```java\n(.*?)```").matcher(page);
        check.isTrue("there is an example", block.find());
        String code = block.group(1);
        Matcher text = Pattern.compile("String text = \"([^\"]*)\";").matcher(code);
        check.isTrue("the example tells a house", text.find());
        SaltLines x = new SaltLines();
        Check.feedAll(x, text.group(1));
        Matcher line = Pattern.compile("int \\w+ = x\\.(\\w+)\\(([^)]*)\\);\\s*// (-?\\w+)").matcher(code);
        int lines = 0;
        while (line.find()) {
            check.due("README: x." + line.group(1) + "(" + line.group(2) + ")", ask(x, line.group(1), line.group(2)), valueOf(line.group(3)));
            lines++;
        }
        check.due("all lines of the example are read", lines, (int) code.lines().filter(l -> l.startsWith("int ")).count());
    }

    private static int ask(SaltLines x, String name, String given) throws ReflectiveOperationException {
        List<Object> numbers = new ArrayList<>();
        for (String number : given.split(", ")) if (!number.isEmpty()) numbers.add(Integer.valueOf(number));
        Class<?>[] types = new Class<?>[numbers.size()];
        Arrays.fill(types, int.class);
        return (Integer) SaltLines.class.getMethod(name, types).invoke(x, numbers.toArray());
    }

    private static int valueOf(String answer) throws ReflectiveOperationException {
        if (answer.matches("-?\\d+")) return Integer.parseInt(answer);
        Field constant = SaltLines.class.getField(answer);
        return constant.getInt(null);
    }

    private static void faults(String page) {
        Matcher row = Pattern.compile("\\| (\\d) \\| [^|]* \\| `([^`]*)` \\| (-\\d+) \\| (\\d+) \\|").matcher(page);
        int seen = 0;
        while (row.find()) {
            SaltLines x = new SaltLines();
            Check.feedAll(x, row.group(2));
            check.due("README: house of '" + row.group(2) + "'", x.house(), Integer.parseInt(row.group(3)));
            check.due("README: fault of '" + row.group(2) + "'", x.fault(), Integer.parseInt(row.group(4)));
            check.due("README: -10 less the number", Integer.parseInt(row.group(3)), -10 - Integer.parseInt(row.group(1)));
            seen |= 1 << Integer.parseInt(row.group(1));
        }
        check.due("README: each fault has an example", seen, 30);
    }

    private static void refusals(String page) throws ReflectiveOperationException {
        Matcher row = Pattern.compile("\\| `(\\w+)` \\| (-\\d+) \\|").matcher(page);
        int last = -1000000000;
        while (row.find()) {
            check.due("README: " + row.group(1), valueOf(row.group(1)), Integer.parseInt(row.group(2)));
            check.due("README: in the order of refusals", valueOf(row.group(1)), --last);
        }
        check.due("README: four refusals", last, SaltLines.FULL);
    }

    private static void everyCallIsNamed(String page) {
        String table = page.substring(page.indexOf("## The calls"), page.indexOf("## How it is built"));
        for (Method method : SaltLines.class.getMethods()) {
            if (method.getDeclaringClass() != SaltLines.class) continue;
            check.isTrue("README names " + method.getName(), table.contains("`" + method.getName() + "`"));
        }
    }

    private static void everyTestIsNamed(String page) throws IOException {
        try (var files = Files.list(Path.of("src/test/java"))) {
            files.map(file -> file.getFileName().toString().replace(".java", "")).filter(name -> name.endsWith("Test"))
                .forEach(name -> check.isTrue("README names " + name, page.contains("`" + name + "`")));
        }
    }
}
