import com.sun.source.tree.AssignmentTree;
import com.sun.source.tree.BinaryTree;
import com.sun.source.tree.ClassTree;
import com.sun.source.tree.CompilationUnitTree;
import com.sun.source.tree.MethodInvocationTree;
import com.sun.source.tree.MethodTree;
import com.sun.source.tree.NewClassTree;
import com.sun.source.tree.Tree;
import com.sun.source.tree.TypeCastTree;
import com.sun.source.tree.VariableTree;
import com.sun.source.util.JavacTask;
import com.sun.source.util.TreePath;
import com.sun.source.util.TreePathScanner;
import com.sun.source.util.Trees;
import java.lang.reflect.Field;
import java.lang.reflect.Method;
import java.lang.reflect.Modifier;
import java.nio.file.Files;
import java.nio.file.Path;
import java.util.ArrayList;
import java.util.EnumSet;
import java.util.LinkedHashMap;
import java.util.List;
import java.util.Map;
import java.util.Set;
import java.util.TreeSet;
import java.util.regex.Matcher;
import java.util.regex.Pattern;
import javax.lang.model.element.Element;
import javax.lang.model.element.ElementKind;
import javax.lang.model.type.TypeMirror;
import javax.tools.JavaCompiler;
import javax.tools.StandardJavaFileManager;
import javax.tools.ToolProvider;

/** Those rules of ../shared/LANGUAGE.md that a look at the text and at the compiled classes can tell. */
public final class LanguageTest {
    private static final String PROGRAM = "src/main/java/FareNumbers.java";
    private static final Set<String> FACE = Set.of("lay", "feed", "end", "text", "fault", "by", "plate", "turn", "grant",
        "day", "played", "years", "undo", "of", "ofHalt", "costs", "is", "book", "foretold", "fair", "left", "twin",
        "whole", "wholes", "span", "apart", "alike", "alikes", "unlike", "band", "total", "mend", "names", "parts",
        "cuts", "game", "mark", "ride", "change", "said", "whose", "dearest", "highest", "ledger", "image", "back",
        "about");
    private static final Set<String> LIBRARY = Set.of("System.arraycopy", "Math.abs", "Math.max", "Math.min",
        "Integer.bitCount", "Long.bitCount", "WORDS.charAt");

    private static int wrong = 0;

    private static void tell(String fault) {
        wrong++;
        System.out.println(fault);
    }

    public static void main(String[] args) throws Exception {
        String text = Files.readString(Path.of(PROGRAM));
        String code = bare(text);
        words(code);
        calls(code);
        methods(code);
        classes();
        new Looked().look();
        if (wrong != 0) {
            System.exit(1);
        }
        System.out.println("the program keeps to the language");
    }

    /** The text without comments, texts and signs. */
    private static String bare(String text) {
        return Pattern.compile("/\\*.*?\\*/|//[^\n]*|\"[^\"\n]*\"|'[^'\n]*'", Pattern.DOTALL).matcher(text)
            .replaceAll(found -> found.group().replaceAll("[^\n]", " "));
    }

    private static void words(String code) {
        String[] banned = {"throw", "throws", "try", "catch", "finally", "synchronized", "assert", "import", "package",
            "volatile", "native", "var", "yield", "equals", "hashCode", "toString", "instanceof", "protected", "super"};
        for (String word : banned) {
            Matcher found = Pattern.compile("\\b" + word + "\\b").matcher(code);
            if (found.find()) {
                tell(word + " stands in line " + line(code, found.start()));
            }
        }
        for (String sign : new String[] {"->", "::", "static {"}) {
            if (code.contains(sign)) {
                tell(sign + " stands in line " + line(code, code.indexOf(sign)));
            }
        }
        for (int i = 0; i < code.length(); i++) {
            if (code.charAt(i) > 126 || code.charAt(i) == '\t') {
                tell("an unlike sign stands in line " + line(code, i));
                return;
            }
        }
    }

    private static int line(String code, int at) {
        return (int) code.substring(0, at).chars().filter(sign -> sign == '\n').count() + 1;
    }

    /** What is made and what is called of the library. */
    private static void calls(String code) {
        Matcher call = Pattern.compile("\\b([A-Z]\\w*\\.[a-z]\\w*)\\(").matcher(code);
        while (call.find()) {
            if (!LIBRARY.contains(call.group(1))) {
                tell(call.group(1) + " is called in line " + line(code, call.start()));
            }
        }
        Matcher made = Pattern.compile("\\bnew (\\w+)").matcher(code);
        while (made.find()) {
            boolean own = code.contains("static final class " + made.group(1) + " ");
            if (!own && !Set.of("int", "byte", "long", "boolean").contains(made.group(1))) {
                tell("new " + made.group(1) + " in line " + line(code, made.start()));
            }
        }
    }

    /** Short methods, and none with more than seven parameters. */
    private static void methods(String code) {
        String[] lines = code.split("\n");
        String name = "";
        int from = 0;
        Pattern head = Pattern.compile("^( {4}| {8})(?:[\\w\\[\\]]+ )*(\\w+)\\((.*)\\) \\{$");
        for (int i = 0; i < lines.length; i++) {
            Matcher found = head.matcher(lines[i]);
            if (found.matches()) {
                name = found.group(2);
                from = i;
                if (found.group(3).split(",").length > 7) {
                    tell(name + " takes more than seven parameters");
                }
            }
            if (lines[i].matches("^( {4}| {8})\\}$") && i - from > 60 && from > 0) {
                String indent = lines[i].replace("}", "");
                if (lines[from].startsWith(indent) && !lines[from].startsWith(indent + " ")) {
                    tell(name + " has " + (i - from) + " lines");
                }
            }
        }
    }

    private static void classes() throws Exception {
        Class<?>[] inside = FareNumbers.class.getDeclaredClasses();
        if (inside.length + 1 > 12) {
            tell("there are " + (inside.length + 1) + " classes");
        }
        Set<String> face = new TreeSet<>();
        for (Method method : FareNumbers.class.getDeclaredMethods()) {
            if (Modifier.isPublic(method.getModifiers())) {
                face.add(method.getName());
            } else if (!Modifier.isPrivate(method.getModifiers())) {
                tell(method.getName() + " is neither public nor private");
            }
        }
        if (!face.equals(new TreeSet<>(FACE))) {
            tell("the face is " + face);
        }
        List<Class<?>> all = new ArrayList<>(List.of(inside));
        all.add(FareNumbers.class);
        for (Class<?> one : all) {
            oneClass(one);
        }
    }

    private static void oneClass(Class<?> one) {
        if (one != FareNumbers.class && !Modifier.isStatic(one.getModifiers())) {
            tell(one + " is not static");
        }
        int own = 0;
        for (Field field : one.getDeclaredFields()) {
            boolean isStatic = Modifier.isStatic(field.getModifiers());
            own += isStatic ? 0 : 1;
            if (isStatic && !Modifier.isFinal(field.getModifiers())) {
                tell(field + " is not final");
            }
            if (one == FareNumbers.class && !Modifier.isPrivate(field.getModifiers()) && !field.getName().equals("NONE")) {
                tell(field + " is not private");
            }
        }
        if (own > 20) {
            tell(one + " has " + own + " fields");
        }
        for (Method method : one.getDeclaredMethods()) {
            if ((one != FareNumbers.class || !Modifier.isPublic(method.getModifiers())) && FACE.contains(method.getName())) {
                tell(method + " has a name of the face");
            }
        }
    }

    /** What the compiler knows of the text: which kinds of trees and types stand in it, and who calls whom. */
    private static final class Looked extends TreePathScanner<Void, Void> {
        private static final int DEEPEST = 8;
        private static final int MOST_PARAMETERS = 7;
        private static final Set<Tree.Kind> KINDS = EnumSet.of(Tree.Kind.COMPILATION_UNIT, Tree.Kind.CLASS, Tree.Kind.METHOD,
            Tree.Kind.MODIFIERS, Tree.Kind.VARIABLE, Tree.Kind.BLOCK, Tree.Kind.IF, Tree.Kind.FOR_LOOP, Tree.Kind.WHILE_LOOP,
            Tree.Kind.DO_WHILE_LOOP, Tree.Kind.SWITCH, Tree.Kind.CASE, Tree.Kind.BREAK, Tree.Kind.CONTINUE, Tree.Kind.RETURN,
            Tree.Kind.EXPRESSION_STATEMENT, Tree.Kind.PRIMITIVE_TYPE, Tree.Kind.ARRAY_TYPE, Tree.Kind.IDENTIFIER,
            Tree.Kind.MEMBER_SELECT, Tree.Kind.METHOD_INVOCATION, Tree.Kind.NEW_CLASS, Tree.Kind.NEW_ARRAY,
            Tree.Kind.ARRAY_ACCESS, Tree.Kind.PARENTHESIZED, Tree.Kind.CONDITIONAL_EXPRESSION, Tree.Kind.TYPE_CAST,
            Tree.Kind.ASSIGNMENT, Tree.Kind.PLUS_ASSIGNMENT, Tree.Kind.MINUS_ASSIGNMENT, Tree.Kind.MULTIPLY_ASSIGNMENT,
            Tree.Kind.AND_ASSIGNMENT, Tree.Kind.OR_ASSIGNMENT, Tree.Kind.XOR_ASSIGNMENT, Tree.Kind.LEFT_SHIFT_ASSIGNMENT,
            Tree.Kind.POSTFIX_INCREMENT, Tree.Kind.POSTFIX_DECREMENT, Tree.Kind.UNARY_MINUS, Tree.Kind.LOGICAL_COMPLEMENT,
            Tree.Kind.BITWISE_COMPLEMENT, Tree.Kind.PLUS, Tree.Kind.MINUS, Tree.Kind.MULTIPLY, Tree.Kind.DIVIDE,
            Tree.Kind.REMAINDER, Tree.Kind.LEFT_SHIFT, Tree.Kind.RIGHT_SHIFT, Tree.Kind.UNSIGNED_RIGHT_SHIFT, Tree.Kind.AND,
            Tree.Kind.OR, Tree.Kind.XOR, Tree.Kind.CONDITIONAL_AND, Tree.Kind.CONDITIONAL_OR, Tree.Kind.LESS_THAN,
            Tree.Kind.LESS_THAN_EQUAL, Tree.Kind.GREATER_THAN, Tree.Kind.GREATER_THAN_EQUAL, Tree.Kind.EQUAL_TO,
            Tree.Kind.NOT_EQUAL_TO, Tree.Kind.INT_LITERAL, Tree.Kind.LONG_LITERAL, Tree.Kind.BOOLEAN_LITERAL,
            Tree.Kind.CHAR_LITERAL, Tree.Kind.STRING_LITERAL, Tree.Kind.NULL_LITERAL);
        private static final Set<String> TYPES = Set.of("int", "long", "boolean", "byte", "int[]", "long[]", "byte[]",
            "boolean[]", "int[][]", "java.lang.String");

        private final Map<Element, Set<Element>> callsOf = new LinkedHashMap<>();
        private final Map<Element, Integer> depths = new LinkedHashMap<>();
        private Trees trees;
        private CompilationUnitTree unit;
        private Element inside;

        void look() throws Exception {
            JavaCompiler compiler = ToolProvider.getSystemJavaCompiler();
            try (StandardJavaFileManager files = compiler.getStandardFileManager(null, null, null)) {
                JavacTask task = (JavacTask) compiler.getTask(null, files, null, List.of("-proc:none"), null,
                    files.getJavaFileObjects(Path.of(PROGRAM)));
                List<CompilationUnitTree> units = new ArrayList<>();
                task.parse().forEach(units::add);
                task.analyze();
                trees = Trees.instance(task);
                unit = units.get(0);
                scan(new TreePath(unit), null);
            }
            if (callsOf.size() < FACE.size()) {
                tell("just " + callsOf.size() + " methods were looked at");
            }
            for (Element method : callsOf.keySet()) {
                recursion(method);
                int depth = depth(method);
                if (depth > DEEPEST) {
                    tell(method.getEnclosingElement() + "." + method + " begins calls that go " + depth + " deep");
                }
            }
        }

        private void tellAt(Tree tree, String fault) {
            long at = trees.getSourcePositions().getStartPosition(unit, tree);
            tell(fault + " in line " + unit.getLineMap().getLineNumber(at));
        }

        @Override
        public Void scan(Tree tree, Void nothing) {
            if (tree != null && !KINDS.contains(tree.getKind())) {
                tellAt(tree, tree.getKind() + " stands");
            }
            return super.scan(tree, nothing);
        }

        @Override
        public Void visitVariable(VariableTree tree, Void nothing) {
            String type = trees.getElement(getCurrentPath()).asType().toString();
            boolean isOwn = type.startsWith("FareNumbers");
            if (!isOwn && !TYPES.contains(type)) {
                tellAt(tree, type + " stands");
            }
            return super.visitVariable(tree, nothing);
        }

        @Override
        public Void visitClass(ClassTree tree, Void nothing) {
            if (inside != null) {
                tellAt(tree, "a class inside a method stands");
            }
            return super.visitClass(tree, nothing);
        }

        @Override
        public Void visitMethod(MethodTree tree, Void nothing) {
            inside = trees.getElement(getCurrentPath());
            callsOf.put(inside, new java.util.LinkedHashSet<>());
            if (tree.getParameters().size() > MOST_PARAMETERS) {
                tellAt(tree, "more than seven parameters stand");
            }
            super.visitMethod(tree, nothing);
            inside = null;
            return null;
        }

        @Override
        public Void visitMethodInvocation(MethodInvocationTree tree, Void nothing) {
            called(trees.getElement(getCurrentPath()));
            return super.visitMethodInvocation(tree, nothing);
        }

        @Override
        public Void visitNewClass(NewClassTree tree, Void nothing) {
            called(trees.getElement(getCurrentPath()));
            boolean inConstructor = inside == null || inside.getKind() == ElementKind.CONSTRUCTOR;
            if (!inConstructor) {
                tellAt(tree, "an object is made by a call");
            }
            return super.visitNewClass(tree, nothing);
        }

        private void called(Element method) {
            if (inside != null && !method.getEnclosingElement().toString().equals("java.lang.Object")) {
                callsOf.get(inside).add(method);
            }
        }

        @Override
        public Void visitBinary(BinaryTree tree, Void nothing) {
            boolean isJoined = trees.getTypeMirror(new TreePath(getCurrentPath(), tree.getLeftOperand())).toString().contains("String")
                || trees.getTypeMirror(new TreePath(getCurrentPath(), tree.getRightOperand())).toString().contains("String");
            if (isJoined) {
                tellAt(tree, tree.getKind() + " of texts stands");
            }
            return super.visitBinary(tree, nothing);
        }

        @Override
        public Void visitTypeCast(TypeCastTree tree, Void nothing) {
            TypeMirror type = trees.getTypeMirror(new TreePath(getCurrentPath(), tree.getType()));
            if (!type.getKind().isPrimitive()) {
                tellAt(tree, "a cast to " + type + " stands");
            }
            return super.visitTypeCast(tree, nothing);
        }

        @Override
        public Void visitAssignment(AssignmentTree tree, Void nothing) {
            Element to = trees.getElement(new TreePath(getCurrentPath(), tree.getVariable()));
            boolean isStatic = to != null && to.getModifiers().contains(javax.lang.model.element.Modifier.STATIC);
            if (isStatic) {
                tellAt(tree, to + " is changed");
            }
            return super.visitAssignment(tree, nothing);
        }

        /** A method that is come to from itself is private, as all on the way; one that calls itself is static, too. */
        private void recursion(Element method) {
            Set<Element> reached = reached(method);
            if (!reached.contains(method)) {
                return;
            }
            Set<javax.lang.model.element.Modifier> has = method.getModifiers();
            if (!has.contains(javax.lang.model.element.Modifier.PRIVATE)) {
                tell(method + " is come to from itself and is not private");
            }
            if (callsOf.get(method).contains(method) && !has.contains(javax.lang.model.element.Modifier.STATIC)) {
                tell(method + " calls itself and is not static");
            }
        }

        private Set<Element> reached(Element method) {
            Set<Element> reached = new java.util.LinkedHashSet<>();
            List<Element> next = new ArrayList<>(callsOf.getOrDefault(method, Set.of()));
            while (!next.isEmpty()) {
                Element one = next.remove(next.size() - 1);
                if (reached.add(one)) {
                    next.addAll(callsOf.getOrDefault(one, Set.of()));
                }
            }
            return reached;
        }

        /** How deep the calls from this method on go, itself counted; those that are come to from themselves count once together. */
        private int depth(Element method) {
            Integer known = depths.get(method);
            if (known != null) {
                return known;
            }
            Set<Element> round = new java.util.LinkedHashSet<>();
            round.add(method);
            for (Element one : reached(method)) {
                if (reached(one).contains(method)) {
                    round.add(one);
                }
            }
            int deepest = 0;
            for (Element one : round) {
                for (Element next : callsOf.getOrDefault(one, Set.of())) {
                    if (!round.contains(next)) {
                        deepest = Math.max(deepest, depth(next));
                    }
                }
            }
            for (Element one : round) {
                depths.put(one, deepest + 1);
            }
            return deepest + 1;
        }
    }
}
