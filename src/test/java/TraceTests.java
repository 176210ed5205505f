import com.sun.source.tree.MethodTree;
import com.sun.source.tree.Tree;
import java.io.File;
import java.nio.file.Path;
import java.util.ArrayList;
import java.util.Arrays;
import java.util.List;
import java.util.regex.Matcher;
import java.util.regex.Pattern;
import javax.lang.model.element.Modifier;

/** No word of the document's terms and promises is left out: each stands in a sentence that some test names. */
public final class TraceTests {
    private static final String DOC = squeezed(Source.read(Path.of("../shared/DOC.md")));
    /** Headings and signatures, which RuleTests looks at, and where the interface is told in parts. */
    private static final Pattern NO_SENTENCE = Pattern.compile("## Terms|## Promise \\d+: [a-zA-Z ]+?(?= `)|`[^`]*`:"
            + "|```(text)?|======== 2|Ahead of the calls .*? the interface says: ---- [a-z ]+\\.");
    private static int wrong = 0;

    private static String squeezed(String text) {
        return text.replaceAll("\\s+", " ").trim();
    }

    private static void fail(String what) {
        wrong++;
        System.out.println(what);
    }

    private static void nameAll(boolean[] named, String words) {
        for (int at = DOC.indexOf(words); at >= 0; at = DOC.indexOf(words, at + 1)) {
            Arrays.fill(named, at, at + words.length(), true);
        }
    }

    private static void eachSentenceIsNamed() {
        boolean[] named = new boolean[DOC.length()];
        File[] tests = new File("src/test/java").listFiles((folder, name) -> name.endsWith("Tests.java"));
        for (File test : tests == null ? new File[0] : tests) {
            for (String text : Source.of(Source.read(test.toPath())).texts()) {
                String words = squeezed(text);
                if (words.contains(" ")) {
                    nameAll(named, words);
                }
            }
        }
        Matcher other = NO_SENTENCE.matcher(DOC);
        while (other.find()) {
            Arrays.fill(named, other.start(), other.end(), true);
        }
        int first = DOC.indexOf("## Terms");
        int last = DOC.indexOf("## Not promised");
        if (first < 0 || last < first) {
            fail("the document has no terms, or no end of them");
            return;
        }
        unnamed(named, first, last);
    }

    /** Marks between what is named are no words. */
    private static void unnamed(boolean[] named, int first, int last) {
        int start = first;
        for (int i = first; i <= last; i++) {
            if (i == last || named[i]) {
                String left = DOC.substring(start, i);
                if (left.matches(".*[a-zA-Z0-9].*")) {
                    fail("no test names: " + left.trim());
                }
                start = i + 1;
            }
        }
    }

    /** The calls stand in the parts, and the parts and calls in the order, that the document tells. */
    private static void partsOfTheInterface() {
        String source = Source.read(Path.of("src/main/java/CandleLand.java"));
        List<String> told = new ArrayList<>();
        Matcher part = Pattern.compile("Ahead of the calls (.*?) the interface says: (---- [a-z ]+)\\.").matcher(DOC);
        int behind = 0;
        while (part.find()) {
            int place = source.indexOf(part.group(2));
            if (place < behind) {
                fail("the file does not say in its place: " + part.group(2));
            }
            Matcher call = Pattern.compile("`(\\w+)`").matcher(part.group(1));
            while (call.find()) {
                told.add(call.group(1));
                behind = Math.max(place, source.indexOf(" " + call.group(1) + "("));
            }
        }
        List<String> got = new ArrayList<>();
        for (Tree member : Source.of(source).firstClass().getMembers()) {
            if (member instanceof MethodTree m && m.getReturnType() != null
                    && m.getModifiers().getFlags().contains(Modifier.PUBLIC)) {
                got.add(m.getName().toString());
            }
        }
        if (!got.equals(told)) {
            fail("the calls stand in the order " + got + ", told is " + told);
        }
    }

    public static void main(String[] args) {
        eachSentenceIsNamed();
        partsOfTheInterface();
        System.out.println(wrong == 0 ? "each sentence is named by a test" : wrong + " are not");
        if (wrong != 0) {
            System.exit(1);
        }
    }
}
