import com.sun.source.tree.AssertTree;
import com.sun.source.tree.BinaryTree;
import com.sun.source.tree.BlockTree;
import com.sun.source.tree.ClassTree;
import com.sun.source.tree.DoWhileLoopTree;
import com.sun.source.tree.ExpressionTree;
import com.sun.source.tree.ForLoopTree;
import com.sun.source.tree.IdentifierTree;
import com.sun.source.tree.InstanceOfTree;
import com.sun.source.tree.LambdaExpressionTree;
import com.sun.source.tree.LiteralTree;
import com.sun.source.tree.MemberReferenceTree;
import com.sun.source.tree.MemberSelectTree;
import com.sun.source.tree.MethodInvocationTree;
import com.sun.source.tree.MethodTree;
import com.sun.source.tree.NewArrayTree;
import com.sun.source.tree.NewClassTree;
import com.sun.source.tree.SynchronizedTree;
import com.sun.source.tree.ThrowTree;
import com.sun.source.tree.Tree;
import com.sun.source.tree.TryTree;
import com.sun.source.tree.TypeCastTree;
import com.sun.source.tree.VariableTree;
import com.sun.source.tree.WhileLoopTree;
import com.sun.source.util.TreeScanner;
import java.nio.file.Path;
import java.util.ArrayList;
import java.util.HashMap;
import java.util.HashSet;
import java.util.List;
import java.util.Map;
import java.util.Set;
import java.util.TreeSet;
import java.util.regex.Matcher;
import java.util.regex.Pattern;
import javax.lang.model.element.Modifier;

/** The document's face and the rules of LANGUAGE.md, as far as a program can look: on the tree of the file. */
public final class RuleTests {
    /** Narrower than rule 3, which allows more: what is not needed is not in the file. */
    private static final Set<String> TYPES = Set.of("int", "long", "byte", "boolean", "void", "String");
    private static final Set<String> LIBRARY = Set.of("Math.max/2", "Math.min/2", "Math.abs/1", "Integer.bitCount/1",
            "System.arraycopy/5");
    private static final Set<String> OF_TEXTS = Set.of("length/0", "charAt/1");
    private static final Set<String> LIBRARY_CLASSES = Set.of("Math", "Integer", "Long", "System", "Arrays", "List",
            "String", "StringBuilder", "ArrayList", "Object", "Thread", "Runtime", "Character");
    private static final int MOST_DEEP = 8;
    private static final int MOST_LINES = 60;
    private static final int MOST_NUMBERS = 7;
    private static final int MOST_CLASSES = 12;
    private static final int MOST_FIELDS = 20;

    private static final Source SOURCE = Source.of(Source.read(Path.of("src/main/java/CandleLand.java")));
    private static final ClassTree LAND = SOURCE.firstClass();
    private static final List<ClassTree> CLASSES = new ArrayList<>();
    private static int wrong = 0;

    private static void rule(int number, boolean kept, String what) {
        if (!kept) {
            wrong++;
            System.out.println("rule " + number + ": " + what);
        }
    }

    private static <T extends Tree> List<T> members(ClassTree of, Class<T> type) {
        List<T> found = new ArrayList<>();
        for (Tree member : of.getMembers()) {
            if (type.isInstance(member)) {
                found.add(type.cast(member));
            }
        }
        return found;
    }

    private static boolean is(Modifier modifier, Tree member) {
        Set<Modifier> flags = member instanceof MethodTree m ? m.getModifiers().getFlags()
                : member instanceof VariableTree v ? v.getModifiers().getFlags()
                : ((ClassTree) member).getModifiers().getFlags();
        return flags.contains(modifier);
    }

    // ---- 1: the face

    private static List<String> face(ClassTree of) {
        List<String> face = new ArrayList<>();
        face.add(new TreeSet<>(of.getModifiers().getFlags()) + " class " + of.getSimpleName());
        for (VariableTree v : members(of, VariableTree.class)) {
            if (is(Modifier.PUBLIC, v)) {
                face.add(new TreeSet<>(v.getModifiers().getFlags()) + " " + v.getType() + " " + v.getName() + " = "
                        + v.getInitializer());
            }
        }
        for (MethodTree m : members(of, MethodTree.class)) {
            if (is(Modifier.PUBLIC, m)) {
                face.add(m.getModifiers().getFlags() + " " + m.getReturnType() + " " + m.getName() + "(" + m.getParameters() + ")"
                        + m.getThrows() + m.getTypeParameters());
            }
        }
        return face;
    }

    private static String documentedFace() {
        Matcher block = Pattern.compile("(?s)## The public face\\s+```java\\n(.*?)```")
                .matcher(Source.read(Path.of("../shared/DOC.md")));
        return block.find() ? block.group(1) : "class Missing { }";
    }

    private static void faceIsTheDocuments() {
        List<String> told = face(Source.of(documentedFace()).firstClass());
        List<String> got = face(LAND);
        rule(1, told.size() == 41, "the document's face has " + told.size() + " rows");
        for (String row : told) {
            rule(1, got.contains(row), "the face lacks " + row);
        }
        for (String row : got) {
            rule(1, told.contains(row), "the face has " + row + ", which the document has not");
        }
        rule(1, SOURCE.unit.getPackageName() == null && SOURCE.unit.getImports().isEmpty()
                && SOURCE.unit.getTypeDecls().size() == 1, "one class, no package, no import");
    }

    private static void restIsHidden() {
        Set<String> open = new HashSet<>();
        for (MethodTree m : members(LAND, MethodTree.class)) {
            if (is(Modifier.PUBLIC, m)) {
                open.add(m.getName().toString());
            } else {
                rule(1, is(Modifier.PRIVATE, m), m.getName() + " is seen from outside");
            }
        }
        for (VariableTree v : members(LAND, VariableTree.class)) {
            rule(1, is(Modifier.PUBLIC, v) || is(Modifier.PRIVATE, v), v.getName() + " is seen from outside");
        }
        for (ClassTree c : CLASSES) {
            for (MethodTree m : members(c, MethodTree.class)) {
                boolean hidden = c != LAND || is(Modifier.PRIVATE, m);
                boolean made = m.getReturnType() == null;
                rule(1, !hidden || made || !open.contains(m.getName().toString()), c.getSimpleName() + "." + m.getName()
                        + " bears the name of a public one");
            }
        }
    }

    // ---- 2, 3, 5: classes, types, what is static

    private static void classes() {
        for (ClassTree c : CLASSES) {
            if (c != LAND) {
                rule(2, is(Modifier.STATIC, c), c.getSimpleName() + " is not static");
                rule(2, !is(Modifier.PUBLIC, c) && !is(Modifier.PROTECTED, c), c.getSimpleName() + " is seen from outside");
                rule(2, members(c, ClassTree.class).isEmpty(), "a class inside " + c.getSimpleName());
            }
            for (BlockTree block : members(c, BlockTree.class)) {
                rule(5, !block.isStatic(), "a static block in " + c.getSimpleName());
            }
            for (VariableTree v : members(c, VariableTree.class)) {
                rule(5, !is(Modifier.STATIC, v) || is(Modifier.FINAL, v), v.getName() + " is static, not final");
                rule(5, !is(Modifier.STATIC, v) || v.getType().toString().equals("int"), v.getName() + " is no constant");
                rule(13, !is(Modifier.VOLATILE, v), v.getName() + " is shared by threads");
            }
        }
    }

    private static void type(Tree type) {
        if (type == null) {
            return;
        }
        String name = type.toString();
        String element = name.endsWith("[]") ? name.substring(0, name.length() - 2) : name;
        boolean own = CLASSES.stream().anyMatch(c -> c != LAND && c.getSimpleName().contentEquals(element));
        rule(3, TYPES.contains(element) || own, "the type " + name);
    }

    // ---- 4, 6, 9, 12: what stands in the methods

    /** Looks at each part of one method, or of what a field begins with. */
    private static final class Look extends TreeScanner<Void, Void> {
        private final String where;
        private final boolean atFirst;

        Look(String where, boolean atFirst) {
            this.where = where;
            this.atFirst = atFirst;
        }

        private Void not(int number, String what) {
            rule(number, false, what + " in " + where);
            return null;
        }

        @Override
        public Void visitVariable(VariableTree tree, Void none) {
            type(tree.getType());
            return super.visitVariable(tree, none);
        }

        @Override
        public Void visitClass(ClassTree tree, Void none) {
            return not(2, "a class");
        }

        @Override
        public Void visitLambdaExpression(LambdaExpressionTree tree, Void none) {
            return not(2, "a lambda");
        }

        @Override
        public Void visitMemberReference(MemberReferenceTree tree, Void none) {
            return not(2, "a method reference");
        }

        @Override
        public Void visitThrow(ThrowTree tree, Void none) {
            return not(6, "throw");
        }

        @Override
        public Void visitTry(TryTree tree, Void none) {
            return not(6, "try");
        }

        @Override
        public Void visitSynchronized(SynchronizedTree tree, Void none) {
            return not(6, "synchronized");
        }

        @Override
        public Void visitAssert(AssertTree tree, Void none) {
            return not(6, "assert");
        }

        @Override
        public Void visitInstanceOf(InstanceOfTree tree, Void none) {
            return not(6, "instanceof");
        }

        @Override
        public Void visitTypeCast(TypeCastTree tree, Void none) {
            rule(6, Set.of("int", "long", "byte").contains(tree.getType().toString()), "a cast in " + where);
            return super.visitTypeCast(tree, none);
        }

        @Override
        public Void visitBinary(BinaryTree tree, Void none) {
            boolean texts = isText(tree.getLeftOperand()) || isText(tree.getRightOperand());
            rule(10, !texts, "a text joined or compared in " + where);
            return super.visitBinary(tree, none);
        }

        private static boolean isText(ExpressionTree part) {
            return part instanceof LiteralTree literal && literal.getValue() instanceof String;
        }

        @Override
        public Void visitForLoop(ForLoopTree tree, Void none) {
            boolean counted = tree.getCondition() != null && tree.getUpdate().size() == 1;
            rule(9, counted, "a loop without an end in " + where);
            return super.visitForLoop(tree, none);
        }

        @Override
        public Void visitWhileLoop(WhileLoopTree tree, Void none) {
            boolean compared = Pattern.compile("\\w+ < \\w+").matcher(tree.getCondition().toString()).find();
            rule(9, compared, "a loop without an end in " + where);
            return super.visitWhileLoop(tree, none);
        }

        @Override
        public Void visitDoWhileLoop(DoWhileLoopTree tree, Void none) {
            return not(9, "a loop that is looked at only behind it");
        }

        @Override
        public Void visitNewClass(NewClassTree tree, Void none) {
            rule(2, tree.getClassBody() == null, "a class without a name in " + where);
            rule(12, atFirst, "an object is made by a call in " + where);
            type(tree.getIdentifier());
            return super.visitNewClass(tree, none);
        }

        @Override
        public Void visitNewArray(NewArrayTree tree, Void none) {
            rule(12, atFirst, "an array is made by a call in " + where);
            return super.visitNewArray(tree, none);
        }
    }

    private static void methods() {
        for (ClassTree c : CLASSES) {
            for (VariableTree v : members(c, VariableTree.class)) {
                new Look(c.getSimpleName() + "." + v.getName(), true).scan(v, null);
            }
            for (MethodTree m : members(c, MethodTree.class)) {
                String name = c.getSimpleName() + "." + m.getName();
                type(m.getReturnType());
                new Look(name, m.getReturnType() == null).scan(m, null);
                rule(6, !Set.of("equals", "hashCode", "toString", "finalize").contains(m.getName().toString()), name);
                rule(6, m.getThrows().isEmpty(), "throws in " + name);
                rule(11, m.getParameters().size() <= MOST_NUMBERS, "too many parameters of " + name);
                rule(11, SOURCE.lines(m) <= MOST_LINES, name + " is too long");
            }
            long fields = members(c, VariableTree.class).stream().filter(v -> !is(Modifier.STATIC, v)).count();
            rule(11, fields <= MOST_FIELDS, c.getSimpleName() + " has " + fields + " fields");
        }
        rule(11, CLASSES.size() <= MOST_CLASSES, "there are " + CLASSES.size() + " classes");
    }

    // ---- 4, 8, 11: what calls what

    private static final Map<String, Set<String>> CALLS = new HashMap<>();

    private static String key(ClassTree in, CharSequence name, int numbers) {
        return in.getSimpleName() + "." + name + "/" + numbers;
    }

    private static boolean has(ClassTree in, CharSequence name, int numbers) {
        return members(in, MethodTree.class).stream()
                .anyMatch(m -> m.getName().contentEquals(name) && m.getParameters().size() == numbers);
    }

    private static ClassTree above(ClassTree c) {
        for (ClassTree other : CLASSES) {
            if (c.getExtendsClause() != null && other.getSimpleName().contentEquals(c.getExtendsClause().toString())) {
                return other;
            }
        }
        return null;
    }

    /** The method of that name that a class has, or the first class over it. */
    private static Set<String> upwards(ClassTree from, CharSequence name, int numbers) {
        for (ClassTree c = from; c != null; c = above(c)) {
            if (has(c, name, numbers)) {
                return Set.of(key(c, name, numbers));
            }
        }
        return Set.of();
    }

    private static Set<String> called(ClassTree in, MethodInvocationTree call) {
        int numbers = call.getArguments().size();
        if (call.getMethodSelect() instanceof IdentifierTree plain) {
            Set<String> own = upwards(in, plain.getName(), numbers);
            return own.isEmpty() ? upwards(LAND, plain.getName(), numbers) : own;
        }
        MemberSelectTree select = (MemberSelectTree) call.getMethodSelect();
        String of = select.getExpression().toString();
        if (of.equals("super")) {
            return above(in) == null ? Set.of() : upwards(above(in), select.getIdentifier(), numbers);
        }
        Set<String> any = new HashSet<>();
        for (ClassTree c : CLASSES) {
            if (c != LAND && has(c, select.getIdentifier(), numbers) && !LIBRARY_CLASSES.contains(of)) {
                any.add(key(c, select.getIdentifier(), numbers));
            }
        }
        return any;
    }

    private static boolean isLibrary(MethodInvocationTree call) {
        int numbers = call.getArguments().size();
        if (!(call.getMethodSelect() instanceof MemberSelectTree select)) {
            return false;
        }
        return LIBRARY.contains(select.getExpression() + "." + select.getIdentifier() + "/" + numbers)
                || OF_TEXTS.contains(select.getIdentifier() + "/" + numbers);
    }

    private static void gatherCalls() {
        for (ClassTree c : CLASSES) {
            for (MethodTree m : members(c, MethodTree.class)) {
                Set<String> callees = CALLS.computeIfAbsent(key(c, m.getName(), m.getParameters().size()),
                        k -> new HashSet<>());
                new TreeScanner<Void, Void>() {
                    @Override
                    public Void visitMethodInvocation(MethodInvocationTree call, Void none) {
                        Set<String> found = called(c, call);
                        rule(4, !found.isEmpty() || isLibrary(call), "the library's " + call.getMethodSelect());
                        callees.addAll(found);
                        return super.visitMethodInvocation(call, none);
                    }
                }.scan(m, null);
            }
        }
    }

    /** How many calls stand open at once below this one, with it; open holds those above it. */
    private static int depth(String method, Set<String> open) {
        if (!open.add(method)) {
            rule(8, false, method + " calls itself");
            return 0;
        }
        int deepest = 0;
        for (String callee : CALLS.getOrDefault(method, Set.of())) {
            deepest = Math.max(deepest, depth(callee, open));
        }
        open.remove(method);
        return deepest + 1;
    }

    private static void depths() {
        gatherCalls();
        rule(8, CALLS.get("Gutters.strength/2").contains("Wick.strength/2"), "a kind calls the one it is under");
        for (MethodTree m : members(LAND, MethodTree.class)) {
            String method = key(LAND, m.getName(), m.getParameters().size());
            int depth = depth(method, new HashSet<>());
            rule(11, depth <= MOST_DEEP, method + " goes " + depth + " deep");
        }
    }

    // ---- 12: the room

    private static long madeSince(long before) {
        com.sun.management.ThreadMXBean meter =
                (com.sun.management.ThreadMXBean) java.lang.management.ManagementFactory.getThreadMXBean();
        return meter.getThreadAllocatedBytes(Thread.currentThread().getId()) - before;
    }

    /** All calls of a run live in one room: a call that makes objects would fill it. */
    private static void room() {
        CandleLand x = new CandleLand();
        for (int round = 0; round < 20; round++) {
            callAll(x);
        }
        long before = madeSince(0);
        long idle = madeSince(before);
        before = madeSince(0);
        for (int round = 0; round < 1000; round++) {
            callAll(x);
        }
        long made = madeSince(before) - idle;
        rule(12, made < 16L * 1000, "a thousand rounds of calls make " + made + " bytes");
        before = madeSince(0);
        CandleLand[] many = new CandleLand[1000];
        for (int i = 0; i < many.length; i++) {
            many[i] = new CandleLand();
        }
        long each = (madeSince(before) - idle) / many.length;
        rule(12, each < 16384, "a new object takes " + each + " bytes");
    }

    private static long callAll(CandleLand x) {
        long sum = x.valley(1);
        for (int k = 0; k < 7; k++) {
            sum += x.candle(k % 6, 9 * k, 20, k % 4, 12);
        }
        sum += x.move(1, 7) + x.light(2, 0) + x.undo() + x.clear();
        for (int i = 0; i < 9; i++) {
            sum += x.type("valley 1;".charAt(i));
        }
        sum += x.want(5) + x.reading(9, 0, 5) + x.image(0) + x.read() + x.from(0);
        sum += x.of(0, 6) + x.shines(0, 5, 0) + x.cell(5, 0, 1) + x.acres(0, 0, -1) + x.hedges(0, -1);
        sum += x.dark(5, 0, 5) + x.lighting(0, 5) + x.tallow(0, 5) + x.put(0, 0) + x.thief(0, 63, 0, 20, 1);
        sum += x.wedding(0, 1, 0) + x.spite(0, 1, 0, 5) + x.burn(1) + x.measure(0) + x.draught(5, 0, 5, 5);
        sum += x.nights(0, 1, 30, 50) + x.part(0) + x.status(0) + x.count(0) + x.forget() + x.burnt() + x.fog(0);
        return sum + x.digest();
    }

    public static void main(String[] args) {
        CLASSES.add(LAND);
        CLASSES.addAll(members(LAND, ClassTree.class));
        faceIsTheDocuments();
        restIsHidden();
        classes();
        methods();
        depths();
        room();
        System.out.println(wrong == 0 ? "all rules are kept" : wrong + " rules are not kept");
        if (wrong != 0) {
            System.exit(1);
        }
    }
}
