import java.lang.reflect.Constructor;
import java.lang.reflect.Field;
import java.lang.reflect.Method;
import java.lang.reflect.Modifier;
import java.nio.file.Files;
import java.nio.file.Path;
import java.util.ArrayList;
import java.util.List;
import java.util.TreeSet;
import java.util.regex.Matcher;
import java.util.regex.Pattern;

/** What LANGUAGE.md asks of the file, as far as a program can look: the face, words that are ruled out, the room. */
public final class RuleTests {
    private static final String[] FACE = {"int valley(int)", "int fog(int)", "int candle(int,int,int,int,int)",
        "int move(int,int)", "int light(int,int)", "int undo()", "int type(int)", "int clear()", "int read()",
        "int of(int,int)", "int shines(int,int,int)", "int cell(int,int,int)", "int acres(int,int,int)",
        "int hedges(int,int)", "int dark(int,int,int)", "int want(int)", "int forget()", "int lighting(int,int)",
        "int tallow(int,int)", "int put(int,int)", "int thief(int,int,int,int,int)", "int wedding(int,int,int)",
        "int spite(int,int,int,int)", "int reading(int,int,int)", "int burnt()", "int burn(int)", "int measure(int)",
        "int draught(int,int,int,int)", "int nights(int,int,int,int)", "long part(int)", "int image(int)",
        "int from(int)", "int status(int)", "int count(int)", "long digest()"};
    private static final String[] RULED_OUT = {"throw", "throws", "try", "catch", "synchronized", "assert", "->", "::",
        "import", "package", "Exact", "protected", "goto", "volatile", "transient", "native"};
    private static int wrong = 0;

    private static void due(String what, Object got, Object want) {
        if (!got.equals(want)) {
            wrong++;
            System.out.println(what + " is " + got + ", due is " + want);
        }
    }

    private static void face() {
        TreeSet<String> methods = new TreeSet<>();
        TreeSet<String> names = new TreeSet<>();
        List<String> hidden = new ArrayList<>();
        for (Method m : CandleLand.class.getDeclaredMethods()) {
            if (Modifier.isPrivate(m.getModifiers())) {
                hidden.add(m.getName());
                continue;
            }
            StringBuilder s = new StringBuilder(m.getReturnType() + " " + m.getName() + "(");
            for (Class<?> p : m.getParameterTypes()) {
                s.append(s.charAt(s.length() - 1) == '(' ? "" : ",").append(p);
            }
            methods.add(s + ")");
            names.add(m.getName());
            due("visibility of " + m.getName(), Modifier.isPublic(m.getModifiers()), true);
        }
        due("the methods", methods, new TreeSet<>(List.of(FACE)));
        for (Class<?> c : CandleLand.class.getDeclaredClasses()) {
            due("static " + c, Modifier.isStatic(c.getModifiers()), true);
            for (Method m : c.getDeclaredMethods()) {
                hidden.add(m.getName());
            }
        }
        for (String name : hidden) {
            due("a hidden method named " + name + " as one of the face", names.contains(name), false);
        }
        for (Constructor<?> c : CandleLand.class.getDeclaredConstructors()) {
            due("constructor", c.getParameterCount() + " " + Modifier.isPublic(c.getModifiers()), "0 true");
        }
        fields();
        due("final", Modifier.isFinal(CandleLand.class.getModifiers()), true);
        due("at most twelve classes", CandleLand.class.getDeclaredClasses().length <= 11, true);
    }

    private static void fields() {
        TreeSet<String> open = new TreeSet<>();
        for (Field f : CandleLand.class.getDeclaredFields()) {
            if (!Modifier.isPrivate(f.getModifiers())) {
                open.add(f.getName());
            }
            if (Modifier.isStatic(f.getModifiers())) {
                due("final " + f.getName(), Modifier.isFinal(f.getModifiers()), true);
            }
        }
        due("fields seen from outside", open, new TreeSet<>(List.of("NONE", "BAD", "NO", "FULL")));
    }

    private static void words() throws Exception {
        String source = Files.readString(Path.of("src/main/java/CandleLand.java"));
        String code = source.replaceAll("(?s)/\\*.*?\\*/", " ").replaceAll("//[^\n]*", " ");
        for (String word : RULED_OUT) {
            String bounded = Character.isLetter(word.charAt(0)) ? "\\b" + word + "\\b" : Pattern.quote(word);
            due("'" + word + "' in the code", Pattern.compile(bounded).matcher(code).find(), false);
        }
        TreeSet<String> library = new TreeSet<>();
        Matcher m = Pattern.compile("\\b(Math|Integer|Long|System|Arrays|List|String|StringBuilder)\\.(\\w+)")
                .matcher(code);
        while (m.find()) {
            library.add(m.group());
        }
        library.removeAll(List.of("Math.max", "Math.abs", "Math.min", "Integer.bitCount", "System.arraycopy"));
        due("the library's other functions", library, new TreeSet<String>());
    }

    /** All calls of a run live in one room: a call that makes objects would fill it. */
    private static void room() {
        com.sun.management.ThreadMXBean meter =
                (com.sun.management.ThreadMXBean) java.lang.management.ManagementFactory.getThreadMXBean();
        CandleLand x = new CandleLand();
        for (int round = 0; round < 20; round++) {
            callAll(x);
        }
        long before = meter.getThreadAllocatedBytes(Thread.currentThread().getId());
        long idle = meter.getThreadAllocatedBytes(Thread.currentThread().getId()) - before;
        before = meter.getThreadAllocatedBytes(Thread.currentThread().getId());
        for (int round = 0; round < 1000; round++) {
            callAll(x);
        }
        long made = meter.getThreadAllocatedBytes(Thread.currentThread().getId()) - before - idle;
        due("a thousand rounds of calls make less than one object a call", made < 16L * 1000, true);
    }

    private static long callAll(CandleLand x) {
        long sum = x.valley(1);
        for (int k = 0; k < 7; k++) {
            sum += x.candle(k % 6, 9 * k, 20, k % 4, 12);
        }
        sum += x.move(1, 7) + x.light(2, 0) + x.undo() + x.clear();
        for (int i = 0; i < 9; i++) {
            sum += x.type("valley 1;".charAt(i));
        }
        sum += x.want(5) + x.reading(9, 0, 5) + x.image(0) + x.read() + x.from(0);
        sum += x.of(0, 6) + x.shines(0, 5, 0) + x.cell(5, 0, 1) + x.acres(0, 0, -1) + x.hedges(0, -1);
        sum += x.dark(5, 0, 5) + x.lighting(0, 5) + x.tallow(0, 5) + x.put(0, 0) + x.thief(0, 63, 0, 20, 1);
        sum += x.wedding(0, 1, 0) + x.spite(0, 1, 0, 5) + x.burn(1) + x.measure(0) + x.draught(5, 0, 5, 5);
        sum += x.nights(0, 1, 30, 50) + x.part(0) + x.status(0) + x.count(0) + x.forget() + x.burnt() + x.fog(0);
        return sum + x.digest();
    }

    public static void main(String[] args) throws Exception {
        face();
        words();
        room();
        System.out.println(wrong == 0 ? "all rules are kept" : wrong + " rules are not kept");
        if (wrong != 0) {
            System.exit(1);
        }
    }
}
