import com.sun.source.tree.*;
import com.sun.source.util.*;
import java.nio.file.*;
import java.util.*;
import javax.lang.model.element.Modifier;
import javax.tools.*;

/** Reads the class's source and holds it against the rules of LANGUAGE.md that a text can be held against. */
public final class LanguageTest {
    private static final Path SOURCE = Path.of("src/main/java/ShadowHerds.java");
    private static final Set<String> LIBRARY = Set.of("Math", "System", "Integer", "Arrays", "String", "StringBuilder");
    private static final Set<Tree.Kind> FORBIDDEN = EnumSet.of(Tree.Kind.THROW, Tree.Kind.TRY, Tree.Kind.CATCH,
        Tree.Kind.SYNCHRONIZED, Tree.Kind.ASSERT, Tree.Kind.LAMBDA_EXPRESSION, Tree.Kind.MEMBER_REFERENCE,
        Tree.Kind.WHILE_LOOP, Tree.Kind.DO_WHILE_LOOP, Tree.Kind.ANNOTATION, Tree.Kind.PACKAGE, Tree.Kind.IMPORT,
        Tree.Kind.FLOAT_LITERAL, Tree.Kind.DOUBLE_LITERAL, Tree.Kind.SWITCH_EXPRESSION);

    private static int wrong = 0;

    private static void check(boolean so, String what) {
        if (!so) {
            wrong++;
            System.out.println("language: " + what);
        }
    }

    private static final class Member {
        String owner;
        String name;
        int arity;
        boolean open;
        boolean isStatic;
        final List<String[]> calls = new ArrayList<>();
        final Set<Member> callees = new LinkedHashSet<>();
    }

    private static final Map<String, Member> members = new LinkedHashMap<>();
    private static final Map<String, Map<String, String>> fieldTypes = new HashMap<>();
    private static CompilationUnitTree unit;
    private static SourcePositions positions;

    private static long lineOf(long place) {
        return unit.getLineMap().getLineNumber(place);
    }

    public static void main(String[] args) throws Exception {
        JavaCompiler compiler = ToolProvider.getSystemJavaCompiler();
        try (StandardJavaFileManager files = compiler.getStandardFileManager(null, null, null)) {
            JavacTask task = (JavacTask) compiler.getTask(null, files, null, null, null, files.getJavaFileObjects(SOURCE));
            unit = task.parse().iterator().next();
            positions = Trees.instance(task).getSourcePositions();
            readClasses();
            readBodies();
        }
        checkCalls();
        String text = Files.readString(SOURCE);
        for (int i = 0; i < text.length(); i++) {
            char sign = text.charAt(i);
            check(sign == '\n' || sign >= 32 && sign < 127, "a sign " + (int) sign + " at " + i);
        }
        System.out.println(wrong == 0 ? "the class keeps to the language" : wrong + " breaches");
        if (wrong != 0) {
            System.exit(1);
        }
    }

    private static List<ClassTree> classes = new ArrayList<>();

    private static void readClasses() {
        check(unit.getTypeDecls().size() == 1, "more than one class in the file");
        ClassTree outer = (ClassTree) unit.getTypeDecls().get(0);
        classes.add(outer);
        for (Tree member : outer.getMembers()) {
            if (member instanceof ClassTree inner) {
                classes.add(inner);
                check(inner.getModifiers().getFlags().contains(Modifier.STATIC), inner.getSimpleName() + " is not static");
                check(inner.getModifiers().getFlags().contains(Modifier.PRIVATE), inner.getSimpleName() + " is not private");
                for (Tree deeper : inner.getMembers()) {
                    check(!(deeper instanceof ClassTree), "a class within " + inner.getSimpleName());
                }
            }
        }
        check(classes.size() <= 12, "more than twelve classes: " + classes.size());
        Set<String> open = new HashSet<>();
        for (Tree member : outer.getMembers()) {
            if (member instanceof MethodTree method && method.getModifiers().getFlags().contains(Modifier.PUBLIC)) {
                open.add(method.getName().toString());
            }
        }
        for (ClassTree type : classes) {
            readTypes(type);
        }
        for (ClassTree type : classes) {
            readMembers(type, type == outer, open);
        }
    }

    private static void readTypes(ClassTree type) {
        Map<String, String> types = new HashMap<>();
        fieldTypes.put(type.getSimpleName().toString(), types);
        for (Tree tree : type.getMembers()) {
            if (tree instanceof VariableTree field) {
                types.put(field.getName().toString(), field.getType().toString());
            }
        }
    }

    private static void readMembers(ClassTree type, boolean outer, Set<String> open) {
        String owner = type.getSimpleName().toString();
        int fields = 0;
        for (Tree tree : type.getMembers()) {
            if (tree instanceof VariableTree field) {
                Set<Modifier> flags = field.getModifiers().getFlags();
                if (flags.contains(Modifier.STATIC)) {
                    check(flags.contains(Modifier.FINAL), owner + "." + field.getName() + " is static and not final");
                    String kind = field.getType().toString();
                    check(Set.of("int", "long", "boolean", "char", "String", "int[]", "long[]", "char[]", "byte[]").contains(kind),
                        owner + "." + field.getName() + " is a static " + kind);
                } else {
                    fields++;
                    check(!outer || flags.contains(Modifier.PRIVATE), "field " + field.getName() + " is not private");
                }
            } else if (tree instanceof MethodTree method) {
                addMember(owner, method, outer, open);
            } else {
                check(tree instanceof ClassTree, "a member of kind " + tree.getKind() + " in " + owner);
            }
        }
        check(fields <= 20, owner + " has " + fields + " fields");
    }

    private static void addMember(String owner, MethodTree method, boolean outer, Set<String> open) {
        String name = method.getName().toString();
        Set<Modifier> flags = method.getModifiers().getFlags();
        boolean isOpen = outer && flags.contains(Modifier.PUBLIC);
        check(!outer || isOpen || flags.contains(Modifier.PRIVATE), "method " + name + " is neither public nor private");
        check(isOpen || name.equals("<init>") || !open.contains(name), owner + "." + name + " bears the name of a public method");
        check(method.getParameters().size() <= 7, owner + "." + name + " takes too many parameters");
        long from = lineOf(positions.getStartPosition(unit, method));
        long till = lineOf(positions.getEndPosition(unit, method));
        check(till - from + 1 <= 60, owner + "." + name + " has " + (till - from + 1) + " lines");
        Member member = new Member();
        member.owner = owner;
        member.name = name;
        member.arity = method.getParameters().size();
        member.open = isOpen;
        member.isStatic = flags.contains(Modifier.STATIC);
        check(members.put(owner + "." + name, member) == null, owner + "." + name + " stands there twice");
        Map<String, String> local = new HashMap<>();
        new TreeScanner<Void, Void>() {
            @Override public Void visitVariable(VariableTree tree, Void v) {
                local.put(tree.getName().toString(), String.valueOf(tree.getType()));
                return super.visitVariable(tree, v);
            }
            @Override public Void visitMethodInvocation(MethodInvocationTree tree, Void v) {
                ExpressionTree select = tree.getMethodSelect();
                if (select instanceof IdentifierTree id) {
                    member.calls.add(new String[] {"", id.getName().toString()});
                } else if (select instanceof MemberSelectTree chosen) {
                    member.calls.add(new String[] {typeOf(owner, local, chosen.getExpression()), chosen.getIdentifier().toString()});
                }
                return super.visitMethodInvocation(tree, v);
            }
            @Override public Void visitNewClass(NewClassTree tree, Void v) {
                check(tree.getClassBody() == null, "an anonymous class in " + owner + "." + name);
                member.calls.add(new String[] {tree.getIdentifier().toString(), "<init>"});
                return super.visitNewClass(tree, v);
            }
        }.scan(method, null);
    }

    private static String typeOf(String owner, Map<String, String> local, ExpressionTree tree) {
        if (tree instanceof IdentifierTree id) {
            String name = id.getName().toString();
            if (local.containsKey(name)) {
                return local.get(name);
            }
            String field = fieldTypes.getOrDefault(owner, Map.of()).get(name);
            return field == null ? name : field;
        }
        if (tree instanceof MemberSelectTree select) {
            String inside = typeOf(owner, local, select.getExpression());
            return fieldTypes.getOrDefault(inside, Map.of()).getOrDefault(select.getIdentifier().toString(), "?");
        }
        if (tree instanceof ArrayAccessTree access) {
            return typeOf(owner, local, access.getExpression()).replace("[]", "");
        }
        return "?";
    }

    private static void readBodies() {
        new TreeScanner<Void, Void>() {
            @Override public Void scan(Tree tree, Void v) {
                if (tree != null) {
                    String place = tree.getKind() + " in line " + lineOf(positions.getStartPosition(unit, tree));
                    check(!FORBIDDEN.contains(tree.getKind()), place);
                    if (tree instanceof BinaryTree binary && tree.getKind() == Tree.Kind.PLUS) {
                        check(binary.getLeftOperand().getKind() != Tree.Kind.STRING_LITERAL
                            && binary.getRightOperand().getKind() != Tree.Kind.STRING_LITERAL, "texts joined by +: " + place);
                    }
                    if (tree instanceof ForLoopTree loop) {
                        check(loop.getCondition() != null && !loop.getUpdate().isEmpty(), "a loop without a bound: " + place);
                    }
                    if (tree instanceof PrimitiveTypeTree type) {
                        String name = type.toString();
                        check(!name.equals("double") && !name.equals("float"), "a " + name + ": " + place);
                    }
                }
                return super.scan(tree, v);
            }
        }.scan(unit, null);
    }

    private static void checkCalls() {
        for (Member member : members.values()) {
            for (String[] call : member.calls) {
                Member callee = members.get((call[0].isEmpty() ? member.owner : call[0]) + "." + call[1]);
                if (callee == null && call[0].isEmpty()) {
                    callee = members.get("ShadowHerds." + call[1]);
                }
                boolean known = callee != null || LIBRARY.contains(call[0]) || call[1].equals("<init>") || call[1].equals("super");
                check(known, member.owner + "." + member.name + " calls " + call[0] + "." + call[1] + ", which is not known");
                check(!call[1].endsWith("Exact"), "a call of " + call[1]);
                if (callee != null) {
                    member.callees.add(callee);
                }
            }
        }
        int deepest = 0;
        for (Member member : members.values()) {
            Deque<Member> open = new ArrayDeque<>();
            int depth = depthOf(member, open);
            deepest = Math.max(deepest, depth);
            if (depth > 8) {
                check(false, member.owner + "." + member.name + " goes " + depth + " calls deep");
                System.out.println("  " + chainOf(member, new ArrayDeque<>()));
            }
            boolean used = member.open || member.name.equals("<init>");
            for (Member other : members.values()) {
                used |= other.callees.contains(member);
            }
            check(used, member.owner + "." + member.name + " is never called");
        }
        System.out.println("calls that are no recursion go " + deepest + " deep");
    }

    /** The longest chain of calls from a member on in which none stands twice. */
    private static int depthOf(Member member, Deque<Member> open) {
        open.push(member);
        int deepest = 0;
        for (Member callee : member.callees) {
            if (!open.contains(callee)) {
                deepest = Math.max(deepest, depthOf(callee, open));
            }
        }
        open.pop();
        return deepest + 1;
    }

    private static String chainOf(Member member, Deque<Member> open) {
        open.push(member);
        String chain = "";
        int deepest = 0;
        for (Member callee : member.callees) {
            if (!open.contains(callee)) {
                int depth = depthOf(callee, open);
                if (depth > deepest) {
                    deepest = depth;
                    chain = chainOf(callee, open);
                }
            }
        }
        open.pop();
        return member.owner + "." + member.name + " > " + chain;
    }
}
