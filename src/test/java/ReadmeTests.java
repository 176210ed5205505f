import java.lang.reflect.Method;
import java.lang.reflect.Modifier;
import java.nio.file.Path;
import java.util.regex.Matcher;
import java.util.regex.Pattern;

/** README.md says how to use the class: it names each call, and its example answers as it says. */
public final class ReadmeTests {
    private static final String README = Source.read(Path.of("README.md"));
    private static int wrong = 0;

    private static void due(boolean holds, String what) {
        if (!holds) {
            wrong++;
            System.out.println("README.md " + what);
        }
    }

    private static void names() {
        for (Method m : CandleLand.class.getDeclaredMethods()) {
            if (Modifier.isPublic(m.getModifiers())) {
                due(README.contains("`" + m.getName() + "`"), "does not name " + m.getName());
            }
        }
        for (String words : new String[] {"new CandleLand()", "at most 512 calls", "`BAD` (-2)", "`NO` (-3)",
            "`FULL` (-4)", "`NONE` (-1)", ".ci/run"}) {
            due(README.contains(words), "does not say " + words);
        }
    }

    private static int[] numbers(String told) {
        String plain = told.replace("CandleLand.NONE", "-1").replace(" ", "");
        String[] parts = plain.isEmpty() ? new String[0] : plain.split(",");
        int[] numbers = new int[parts.length];
        for (int i = 0; i < parts.length; i++) {
            numbers[i] = Integer.parseInt(parts[i]);
        }
        return numbers;
    }

    private static void example() {
        CandleLand x = new CandleLand();
        Matcher row = Pattern.compile("x\\.(\\w+)\\((.*?)\\);\\s+// (-?\\d+)\\b").matcher(README);
        int rows = 0;
        while (row.find()) {
            rows++;
            long got = Calls.answer(x, row.group(1), numbers(row.group(2)));
            due(got == Long.parseLong(row.group(3)), "tells " + row.group() + ", the answer is " + got);
        }
        due(rows == README.split("\n *x\\.").length - 1, "has a row of its example without an answer");
        due(rows > 9, "has no example");
    }

    public static void main(String[] args) {
        names();
        example();
        System.out.println(wrong == 0 ? "README.md is as the class" : wrong + " of README.md do not hold");
        if (wrong != 0) {
            System.exit(1);
        }
    }
}
