import com.sun.source.tree.AssignmentTree;
import com.sun.source.tree.BinaryTree;
import com.sun.source.tree.ClassTree;
import com.sun.source.tree.CompilationUnitTree;
import com.sun.source.tree.DoWhileLoopTree;
import com.sun.source.tree.EnhancedForLoopTree;
import com.sun.source.tree.ForLoopTree;
import com.sun.source.tree.IdentifierTree;
import com.sun.source.tree.MemberSelectTree;
import com.sun.source.tree.MethodInvocationTree;
import com.sun.source.tree.MethodTree;
import com.sun.source.tree.NewArrayTree;
import com.sun.source.tree.NewClassTree;
import com.sun.source.tree.Tree.Kind;
import com.sun.source.tree.VariableTree;
import com.sun.source.tree.WhileLoopTree;
import com.sun.source.util.JavacTask;
import com.sun.source.util.TreeScanner;
import java.io.IOException;
import java.nio.file.Path;
import java.util.ArrayList;
import java.util.HashMap;
import java.util.List;
import java.util.Map;
import java.util.Set;
import java.util.TreeSet;
import java.util.regex.Pattern;
import javax.lang.model.element.Modifier;
import javax.tools.JavaCompiler;
import javax.tools.StandardJavaFileManager;
import javax.tools.ToolProvider;

/** Those rules of LANGUAGE.md that the shape of the source shows; .ci/run starts it at the project's root. */
public final class LanguageShapeTest {
    private static final Path SOURCE = Path.of("src/main/java/ExtentFileTree.java");
    private static final int MOST_PARAMETERS = 7;
    private static final int DEEPEST_CALLS = 6;
    private static final int MOST_FIELDS = 40;

    private final List<String> faults = new ArrayList<>();
    private final Map<String, Set<String>> callsOf = new HashMap<>();
    private final Set<String> arrayFields = new TreeSet<>();

    public static void main(String[] args) throws IOException {
        Due due = new Due();
        due.same("faults", new LanguageShapeTest().faultsOf(parse()), List.of());
        due.end();
    }

    private static CompilationUnitTree parse() throws IOException {
        JavaCompiler compiler = ToolProvider.getSystemJavaCompiler();
        try (StandardJavaFileManager files = compiler.getStandardFileManager(null, null, null)) {
            var task = (JavacTask) compiler.getTask(null, files, null, null, null, files.getJavaFileObjects(SOURCE));
            return task.parse().iterator().next();
        }
    }

    private List<String> faultsOf(CompilationUnitTree file) {
        if (file.getTypeDecls().size() != 1) {
            faults.add("rule 1: not one class");
        }
        ClassTree face = (ClassTree) file.getTypeDecls().get(0);
        fields(face);
        for (var member : face.getMembers()) {
            if (member instanceof MethodTree method) {
                method(method);
            } else if (!(member instanceof VariableTree)) {
                faults.add("rules 1 and 5: neither a field nor a method: " + member);
            }
        }
        for (String method : callsOf.keySet()) {
            depth(method, new ArrayList<>());
        }
        return faults;
    }

    private void fields(ClassTree face) {
        int count = 0;
        for (var member : face.getMembers()) {
            if (!(member instanceof VariableTree field)) {
                continue;
            }
            String type = field.getType().toString();
            if (field.getModifiers().getFlags().contains(Modifier.STATIC)) {
                constant(field, type);
                continue;
            }
            count++;
            if (type.endsWith("[]")) {
                arrayFields.add(field.getName().toString());
            }
            if (field.getInitializer() instanceof NewArrayTree array) {
                length(array);
            } else if (type.endsWith("[]")) {
                faults.add("rule 4: made elsewhere: " + field);
            }
        }
        if (count > MOST_FIELDS) {
            faults.add("rule 10: " + count + " fields");
        }
    }

    private void constant(VariableTree field, String type) {
        boolean number = type.equals("int") || type.equals("long");
        boolean last = field.getModifiers().getFlags().contains(Modifier.FINAL);
        if (!number || !last || field.getInitializer() == null || !callsIn(field.getInitializer()).isEmpty()) {
            faults.add("rule 5: not a constant of int or long: " + field);
        }
    }

    private void length(NewArrayTree array) {
        boolean one = array.getDimensions().size() == 1 && array.getInitializers() == null;
        Kind kind = one ? array.getDimensions().get(0).getKind() : null;
        if (kind != Kind.INT_LITERAL && kind != Kind.IDENTIFIER) {
            faults.add("rule 4: the length is no literal and no constant: " + array);
        }
    }

    private static List<MethodInvocationTree> callsIn(com.sun.source.tree.Tree tree) {
        List<MethodInvocationTree> calls = new ArrayList<>();
        new TreeScanner<Void, Void>() {
            @Override
            public Void visitMethodInvocation(MethodInvocationTree call, Void nothing) {
                calls.add(call);
                return super.visitMethodInvocation(call, nothing);
            }
        }.scan(tree, null);
        return calls;
    }

    private void method(MethodTree method) {
        String name = method.getName().toString();
        if (callsOf.containsKey(name)) {
            faults.add("this test tells methods by their names, and there are two of " + name);
        }
        if (method.getParameters().size() > MOST_PARAMETERS) {
            faults.add("rule 10: too many parameters: " + name);
        }
        Set<String> called = new TreeSet<>();
        for (MethodInvocationTree call : callsIn(method.getBody())) {
            called.add(call.getMethodSelect().toString());
            if (call.getArguments().stream().anyMatch(argument -> !callsIn(argument).isEmpty())) {
                faults.add("rule 10: a call inside the arguments of another one: " + call);
            }
        }
        callsOf.put(name, called);
        new Shapes(name).scan(method.getBody(), null);
    }

    /** How many calls deep a method goes, itself among them. */
    private int depth(String method, List<String> above) {
        if (above.contains(method)) {
            faults.add("rule 8: recursion: " + above + " " + method);
            return 0;
        }
        List<String> way = new ArrayList<>(above);
        way.add(method);
        int deepest = 0;
        for (String called : callsOf.getOrDefault(method, Set.of())) {
            deepest = Math.max(deepest, depth(called, way));
        }
        if (above.isEmpty() && deepest + 1 > DEEPEST_CALLS) {
            faults.add("rule 10: calls too deep from " + method);
        }
        return deepest + 1;
    }

    /** What may not stand in a method at all. */
    private final class Shapes extends TreeScanner<Void, Void> {
        private final String method;

        Shapes(String method) {
            this.method = method;
        }

        private void fault(String rule, Object what) {
            faults.add(rule + " in " + method + ": " + what);
        }

        @Override
        public Void visitNewArray(NewArrayTree array, Void nothing) {
            fault("rule 4: an array made", array);
            return super.visitNewArray(array, nothing);
        }

        @Override
        public Void visitNewClass(NewClassTree made, Void nothing) {
            fault("rule 4: an object made", made);
            return super.visitNewClass(made, nothing);
        }

        @Override
        public Void visitAssignment(AssignmentTree assignment, Void nothing) {
            boolean plain = assignment.getVariable() instanceof IdentifierTree;
            if (plain && arrayFields.contains(assignment.getVariable().toString())) {
                fault("rule 4: an array field assigned to", assignment);
            }
            return super.visitAssignment(assignment, nothing);
        }

        @Override
        public Void visitBinary(BinaryTree binary, Void nothing) {
            boolean comparison = binary.getKind() == Kind.EQUAL_TO || binary.getKind() == Kind.NOT_EQUAL_TO;
            boolean array = arrayFields.contains(binary.getLeftOperand().toString())
                    || arrayFields.contains(binary.getRightOperand().toString());
            if (comparison && array) {
                fault("rule 4: an array compared", binary);
            }
            return super.visitBinary(binary, nothing);
        }

        /** The class needs no member of another object, so none stands here: the library's would be one. */
        @Override
        public Void visitMemberSelect(MemberSelectTree member, Void nothing) {
            fault("rule 3: a member of another object", member);
            return super.visitMemberSelect(member, nothing);
        }

        /** The plainest end that can be seen: one counter that grows by one against a bound. */
        @Override
        public Void visitForLoop(ForLoopTree loop, Void nothing) {
            boolean counted = loop.getInitializer().size() == 1
                    && loop.getInitializer().get(0) instanceof VariableTree
                    && loop.getUpdate().size() == 1;
            String counter = counted ? ((VariableTree) loop.getInitializer().get(0)).getName().toString() : "";
            String condition = String.valueOf(loop.getCondition()).replaceAll("^\\((.*)\\)$", "$1");
            boolean bounded = condition.matches(counter + " < \\w+( && .*)?");
            if (!counted || !bounded || !loop.getUpdate().get(0).toString().equals(counter + "++;")) {
                fault("rule 8: not one counter against a bound", loop);
            }
            counterStays(loop, counter);
            return super.visitForLoop(loop, nothing);
        }

        private void counterStays(ForLoopTree loop, String counter) {
            String body = loop.getStatement().toString();
            String before = "(\\+\\+|--)" + counter + "\\b";
            String behind = "\\b" + counter + "(\\+\\+|--| (<<|>>>?|[-+*/%&|^])?=[^=])";
            if (Pattern.compile(before + "|" + behind).matcher(body).find()) {
                fault("rule 8: the counter is changed", loop);
            }
        }

        @Override
        public Void visitWhileLoop(WhileLoopTree loop, Void nothing) {
            fault("rule 8: a loop without a counter", loop);
            return super.visitWhileLoop(loop, nothing);
        }

        @Override
        public Void visitDoWhileLoop(DoWhileLoopTree loop, Void nothing) {
            fault("rule 8: a loop without a counter", loop);
            return super.visitDoWhileLoop(loop, nothing);
        }

        @Override
        public Void visitEnhancedForLoop(EnhancedForLoopTree loop, Void nothing) {
            fault("rule 8: a loop without a counter", loop);
            return super.visitEnhancedForLoop(loop, nothing);
        }
    }
}
